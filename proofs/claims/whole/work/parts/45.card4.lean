theorem s_addBox {L : Int} {k : Nat} {a b : Int} {bs : List Bx} (hL : 4 ≤ L ∧ L ≤ 12) (hv : Val L ((k, a, b) :: bs)) {w : Wd} (hc : CR L bs w) {Q : Wd → Prop} (hq : ∀ w' : Wd, CR L ((k, a, b) :: bs) w' → Q w') : k_X0_addBox (iI k) (iI a) (iI b) w Q := by
  obtain ⟨hv0, hlen, hk, ha, hb, t1, t2, t3⟩ := id hv
  dsimp only at hk ha hb t1 t2 t3
  obtain ⟨c0, c1, cx, cf, ck, cb⟩ := hc
  have t0 := ctri (by omega) hv0 k
  have hfin := ftri (L := L) (by omega) hv (2 * bs.length + 2)
  have hfin2 := ftri (L := L) (by omega) hv (2 * bs.length + 3)
  unfold tri at t0 t1 t2 t3
  have hab : a ≤ 12 ∧ b ≤ 12 := by
    simp only [fl, List.length_cons, if_neg (show ¬ 2 * bs.length + 2 < 2 * bs.length + 2 by omega), if_true, if_neg (show ¬ 2 * bs.length + 3 < 2 * bs.length + 2 by omega), if_neg (show ¬ 2 * bs.length + 3 = 2 * bs.length + 2 by omega)] at hfin hfin2
    omega
  have tn : (iI (k : Int)).toNatClampNeg = k := by rw [iI_tn (by omega) (by omega)]; omega
  have hin : vp_in (iI (k : Int)) 31 := (iI_in (by constructor <;> omega)).mpr ⟨by omega, by omega⟩
  obtain ⟨k9, k10, k11, k12⟩ := ck k hk
  unfold k_X0_addBox
  refine s_isFull (n := bs.length) (by omega) c1 (fun _ => ⟨fun h => absurd rfl h, fun _ => ?_⟩) (fun h => absurd h (by omega))
  refine s_hasCorner (n := bs.length) (by omega) c1 (by constructor <;> omega) (fun _ _ => ⟨fun _ => ⟨hin, hin, hin, hin, ?_⟩, fun h => absurd h (by decide)⟩) (fun h => absurd ⟨by omega, by omega⟩ h)
  unfold k_X0_faces
  simp only [tn, k9, k10, k11, k12, c1, iI_mul, iI_add, iI_neg]
  generalize hP : cp bs k + cu bs k * a = P at t1 t3 ⊢
  generalize hR : cq bs k + cv bs k * b = R at t2 t3 ⊢
  rw [iI_min _ _ (by constructor <;> omega) (by constructor <;> omega), iI_min _ _ (by constructor <;> omega) (by constructor <;> omega)]
  have ef : (2 : Int32) + 2 * iI (bs.length : Int) = iI ((2 * bs.length + 2 : Nat) : Int) := by simp only [li_0, li_1, li_2, li_3, li_4, li_5, li_6, li_7, li_8, li_9, li_10, li_11, li_12, li_13, li_14, li_15, li_16, li_20, li_24, li_25, li_26, li_31, li_40, li_41, li_100, li_169, li_600, li_1000, li_10000, li_100000, lm_1, lm_2, lm_3, lm_4, lm_5, lm_6, lm_600, lm_10000, lm_12, iI_add, iI_sub, iI_mul, iI_neg]; congr 1; omega
  have ef1 : iI ((2 * bs.length + 2 : Nat) : Int) + 1 = iI ((2 * bs.length + 3 : Nat) : Int) := by simp only [li_0, li_1, li_2, li_3, li_4, li_5, li_6, li_7, li_8, li_9, li_10, li_11, li_12, li_13, li_14, li_15, li_16, li_20, li_24, li_25, li_26, li_31, li_40, li_41, li_100, li_169, li_600, li_1000, li_10000, li_100000, lm_1, lm_2, lm_3, lm_4, lm_5, lm_6, lm_600, lm_10000, lm_12, iI_add, iI_sub, iI_mul, iI_neg]; congr 1
  rw [ef, ef1]
  refine s_setFace (by omega) (fun w1 g1 a5 a6 a7 a8 => ?_)
  refine s_setFace (by omega) (fun w2 g2 b5 b6 b7 b8 => ?_)
  have d1 : w2 1 0 = iI bs.length := by rw [g2 1 (by decide) (by decide) (by decide) (by decide), g1 1 (by decide) (by decide) (by decide) (by decide), c1]
  unfold k_X0_corners
  have ec : (1 : Int32) + 5 * iI (bs.length : Int) = iI ((5 * bs.length + 1 : Nat) : Int) := by simp only [li_0, li_1, li_2, li_3, li_4, li_5, li_6, li_7, li_8, li_9, li_10, li_11, li_12, li_13, li_14, li_15, li_16, li_20, li_24, li_25, li_26, li_31, li_40, li_41, li_100, li_169, li_600, li_1000, li_10000, li_100000, lm_1, lm_2, lm_3, lm_4, lm_5, lm_6, lm_600, lm_10000, lm_12, iI_add, iI_sub, iI_mul, iI_neg]; congr 1; omega
  have ec1 : iI ((5 * bs.length + 1 : Nat) : Int) + 1 = iI ((5 * bs.length + 2 : Nat) : Int) := by simp only [li_0, li_1, li_2, li_3, li_4, li_5, li_6, li_7, li_8, li_9, li_10, li_11, li_12, li_13, li_14, li_15, li_16, li_20, li_24, li_25, li_26, li_31, li_40, li_41, li_100, li_169, li_600, li_1000, li_10000, li_100000, lm_1, lm_2, lm_3, lm_4, lm_5, lm_6, lm_600, lm_10000, lm_12, iI_add, iI_sub, iI_mul, iI_neg]; congr 1
  have ec2 : iI ((5 * bs.length + 1 : Nat) : Int) + 2 = iI ((5 * bs.length + 3 : Nat) : Int) := by simp only [li_0, li_1, li_2, li_3, li_4, li_5, li_6, li_7, li_8, li_9, li_10, li_11, li_12, li_13, li_14, li_15, li_16, li_20, li_24, li_25, li_26, li_31, li_40, li_41, li_100, li_169, li_600, li_1000, li_10000, li_100000, lm_1, lm_2, lm_3, lm_4, lm_5, lm_6, lm_600, lm_10000, lm_12, iI_add, iI_sub, iI_mul, iI_neg]; congr 1
  have ec3 : iI ((5 * bs.length + 1 : Nat) : Int) + 3 = iI ((5 * bs.length + 4 : Nat) : Int) := by simp only [li_0, li_1, li_2, li_3, li_4, li_5, li_6, li_7, li_8, li_9, li_10, li_11, li_12, li_13, li_14, li_15, li_16, li_20, li_24, li_25, li_26, li_31, li_40, li_41, li_100, li_169, li_600, li_1000, li_10000, li_100000, lm_1, lm_2, lm_3, lm_4, lm_5, lm_6, lm_600, lm_10000, lm_12, iI_add, iI_sub, iI_mul, iI_neg]; congr 1
  have ec4 : iI ((5 * bs.length + 1 : Nat) : Int) + 4 = iI ((5 * bs.length + 5 : Nat) : Int) := by simp only [li_0, li_1, li_2, li_3, li_4, li_5, li_6, li_7, li_8, li_9, li_10, li_11, li_12, li_13, li_14, li_15, li_16, li_20, li_24, li_25, li_26, li_31, li_40, li_41, li_100, li_169, li_600, li_1000, li_10000, li_100000, lm_1, lm_2, lm_3, lm_4, lm_5, lm_6, lm_600, lm_10000, lm_12, iI_add, iI_sub, iI_mul, iI_neg]; congr 1
  rw [d1, ec]
  dsimp only
  rw [ec1, ec2, ec3, ec4]
  refine s_setCorner (by omega) (fun w3 g3 x9 x10 x11 x12 => ?_)
  refine s_setCorner (by omega) (fun w4 g4 y9 y10 y11 y12 => ?_)
  refine s_setCorner (by omega) (fun w5 g5 z9 z10 z11 z12 => ?_)
  refine s_setCorner (by omega) (fun w6 g6 u9 u10 u11 u12 => ?_)
  refine s_setCorner (by omega) (fun w7 g7 v9 v10 v11 v12 => ?_)
  have far : ∀ r, r ≠ 9 → r ≠ 10 → r ≠ 11 → r ≠ 12 → w7 r = w2 r := fun r h1 h2 h3 h4 => by
    rw [g7 r h1 h2 h3 h4, g6 r h1 h2 h3 h4, g5 r h1 h2 h3 h4, g4 r h1 h2 h3 h4, g3 r h1 h2 h3 h4]
  have near : ∀ r, r ≠ 5 → r ≠ 6 → r ≠ 7 → r ≠ 8 → w2 r = w r := fun r h1 h2 h3 h4 => by
    rw [g2 r h1 h2 h3 h4, g1 r h1 h2 h3 h4]
  have e71 : w7 1 0 = iI bs.length := by rw [far 1 (by decide) (by decide) (by decide) (by decide), d1]
  have q1 : ∀ (f : Nat → Int32) (v : Int32) (j : Nat), up2 w7 2 j v 1 0 = iI bs.length := fun f v j => by rw [up2_ne (by decide), e71]
  have tl : (iI (bs.length : Int)).toNatClampNeg = bs.length := by rw [iI_tn (by omega) (by omega)]; omega
  have r1 : ∀ (i1 i2 : Nat) (v1 v2 : Int32), up2 (up2 w7 2 i1 v1) 3 i2 v2 1 0 = iI bs.length := fun i1 i2 v1 v2 => by rw [up2_ne (by decide), up2_ne (by decide), e71]
  have r2 : ∀ (i1 : Nat) (v1 : Int32), up2 w7 2 i1 v1 1 0 = iI bs.length := fun i1 v1 => by rw [up2_ne (by decide), e71]
  have r3 : ∀ (i1 i2 i3 : Nat) (v1 v2 v3 : Int32), up2 (up2 (up2 w7 2 i1 v1) 3 i2 v2) 4 i3 v3 1 0 = iI bs.length := fun i1 i2 i3 v1 v2 v3 => by rw [up2_ne (by decide), up2_ne (by decide), up2_ne (by decide), e71]
  have hin6 : vp_in (iI (bs.length : Int)) 6 := (iI_in (by constructor <;> omega)).mpr ⟨by omega, by omega⟩
  simp only [e71, r1, r2, r3, tl]
  refine ⟨hin6, hin6, hin6, ?_⟩
  have el : iI (bs.length : Int) + 1 = iI ((bs.length + 1 : Nat) : Int) := by simp only [li_0, li_1, li_2, li_3, li_4, li_5, li_6, li_7, li_8, li_9, li_10, li_11, li_12, li_13, li_14, li_15, li_16, li_20, li_24, li_25, li_26, li_31, li_40, li_41, li_100, li_169, li_600, li_1000, li_10000, li_100000, lm_1, lm_2, lm_3, lm_4, lm_5, lm_6, lm_600, lm_10000, lm_12, iI_add, iI_sub, iI_mul, iI_neg]; rfl
  rw [el]
  obtain ⟨W, hW⟩ : ∃ W : Wd, W = up2 (up2 (up2 (up2 w7 2 bs.length (iI k)) 3 bs.length (iI a)) 4 bs.length (iI b)) 1 0 (iI ((bs.length + 1 : Nat) : Int)) := ⟨_, rfl⟩
  rw [← hW]
  have W1 : W 1 0 = iI ((bs.length + 1 : Nat) : Int) := by rw [hW, up2_at, if_pos rfl]
  have Wo : ∀ r, r ≠ 1 → r ≠ 2 → r ≠ 3 → r ≠ 4 → W r = w7 r := fun r h1 h2 h3 h4 => by rw [hW, up2_ne h1, up2_ne h4, up2_ne h3, up2_ne h2]
  have W2 : ∀ i, W 2 i = if i = bs.length then iI k else w 2 i := fun i => by
    rw [hW, up2_ne (by decide), up2_ne (by decide), up2_ne (by decide), up2_at, far 2 (by decide) (by decide) (by decide) (by decide), near 2 (by decide) (by decide) (by decide) (by decide)]
  have W3 : ∀ i, W 3 i = if i = bs.length then iI a else w 3 i := fun i => by
    rw [hW, up2_ne (by decide), up2_ne (by decide), up2_at, up2_ne (by decide), far 3 (by decide) (by decide) (by decide) (by decide), near 3 (by decide) (by decide) (by decide) (by decide)]
  have W4 : ∀ i, W 4 i = if i = bs.length then iI b else w 4 i := fun i => by
    rw [hW, up2_ne (by decide), up2_at, up2_ne (by decide), up2_ne (by decide), far 4 (by decide) (by decide) (by decide) (by decide), near 4 (by decide) (by decide) (by decide) (by decide)]
  have hF : FR L ((k, a, b) :: bs) W (2 * bs.length + 4) := by
    intro j hj
    unfold FR1 fline fsta
    rw [Wo 5 (by decide) (by decide) (by decide) (by decide), Wo 6 (by decide) (by decide) (by decide) (by decide), Wo 7 (by decide) (by decide) (by decide) (by decide), Wo 8 (by decide) (by decide) (by decide) (by decide),
      far 5 (by decide) (by decide) (by decide) (by decide), far 6 (by decide) (by decide) (by decide) (by decide), far 7 (by decide) (by decide) (by decide) (by decide), far 8 (by decide) (by decide) (by decide) (by decide), b5, b6, b7, b8, a5, a6, a7, a8]
    simp only [upd_at]
    rcases Nat.lt_or_ge j (2 * bs.length + 2) with h | h
    · have hj2 := cf j h
      unfold FR1 fline fsta at hj2
      obtain ⟨h1, h2, h3, h4⟩ := face_tail (L := L) (k, a, b) bs h
      rw [h1, h2, h3, h4]
      simp only [if_neg (show ¬ j = 2 * bs.length + 3 by omega), if_neg (show ¬ j = 2 * bs.length + 2 by omega)]
      exact hj2
    · rcases (show j = 2 * bs.length + 2 ∨ j = 2 * bs.length + 3 by omega) with h | h
      · subst h
        simp only [fw, fp, fq, fl, if_neg (show ¬ 2 * bs.length + 2 < 2 * bs.length + 2 by omega), if_neg (show ¬ 2 * bs.length + 2 = 2 * bs.length + 3 by omega), if_true, if_neg (show ¬ (1 : Int) = 0 by decide), hP, hR]
        exact ⟨by first | trivial | rfl, by first | trivial | rfl, by first | trivial | rfl, by first | trivial | rfl⟩
      · subst h
        simp only [fw, fp, fq, fl, if_neg (show ¬ 2 * bs.length + 3 < 2 * bs.length + 2 by omega), if_neg (show ¬ 2 * bs.length + 3 = 2 * bs.length + 2 by omega), if_true, hP, hR]
        exact ⟨by first | trivial | rfl, by first | trivial | rfl, by first | trivial | rfl, by first | trivial | rfl⟩
  have hB : BR L ((k, a, b) :: bs) W (2 * bs.length + 2) := by
    rw [BR_tail _ (Nat.le_refl _)]
    unfold BR at cb ⊢
    rw [Wo 13 (by decide) (by decide) (by decide) (by decide), Wo 14 (by decide) (by decide) (by decide) (by decide), far 13 (by decide) (by decide) (by decide) (by decide), far 14 (by decide) (by decide) (by decide) (by decide), near 13 (by decide) (by decide) (by decide) (by decide), near 14 (by decide) (by decide) (by decide) (by decide)]
    exact cb
  refine s_draw (L := L) (bs := (k, a, b) :: bs) ⟨by omega, hL.2⟩ hv (by omega) (hF _ (by omega)) hB (fun w8 g8 hB8 => ?_)
  have hF8 : FR L ((k, a, b) :: bs) w8 (2 * bs.length + 4) := by
    intro j hj
    have := hF j hj
    unfold FR1 at this ⊢
    rw [g8 5 (by decide) (by decide), g8 6 (by decide) (by decide), g8 7 (by decide) (by decide), g8 8 (by decide) (by decide)]
    exact this
  refine s_draw (L := L) (bs := (k, a, b) :: bs) ⟨by omega, hL.2⟩ hv (by omega) (hF8 _ (by omega)) hB8 (fun w9 g9 hB9 => hq w9 ?_)
  have e9 : ∀ r, r ≠ 13 → r ≠ 14 → w9 r = W r := fun r h1 h2 => by rw [g9 r h1 h2, g8 r h1 h2]
  refine ⟨?_, ?_, ?_, ?_, ?_, ?_⟩
  · rw [e9 0 (by decide) (by decide), Wo 0 (by decide) (by decide) (by decide) (by decide), far 0 (by decide) (by decide) (by decide) (by decide), near 0 (by decide) (by decide) (by decide) (by decide), c0]
  · rw [e9 1 (by decide) (by decide), W1]; rfl
  · intro i hi
    simp only [List.length_cons] at hi
    rw [e9 2 (by decide) (by decide), e9 3 (by decide) (by decide), e9 4 (by decide) (by decide), W2, W3, W4]
    unfold bx
    rcases Nat.lt_or_ge i bs.length with h | h
    · simp only [if_neg (show ¬ i = bs.length by omega), if_pos h]
      exact cx i h
    · simp only [if_pos (show i = bs.length by omega), if_neg (show ¬ i < bs.length by omega)]
      exact ⟨by first | trivial | rfl, by first | trivial | rfl, by first | trivial | rfl⟩
  · intro j hj
    simp only [List.length_cons] at hj
    have := hF8 j (by omega)
    unfold FR1 at this ⊢
    rw [g9 5 (by decide) (by decide), g9 6 (by decide) (by decide), g9 7 (by decide) (by decide), g9 8 (by decide) (by decide)]
    exact this
  · intro j hj
    simp only [List.length_cons] at hj
    unfold KR1
    rw [e9 9 (by decide) (by decide), e9 10 (by decide) (by decide), e9 11 (by decide) (by decide), e9 12 (by decide) (by decide), Wo 9 (by decide) (by decide) (by decide) (by decide), Wo 10 (by decide) (by decide) (by decide) (by decide), Wo 11 (by decide) (by decide) (by decide) (by decide), Wo 12 (by decide) (by decide) (by decide) (by decide),
      v9, v10, v11, v12, u9, u10, u11, u12, z9, z10, z11, z12, y9, y10, y11, y12, x9, x10, x11, x12, near 9 (by decide) (by decide) (by decide) (by decide), near 10 (by decide) (by decide) (by decide) (by decide), near 11 (by decide) (by decide) (by decide) (by decide), near 12 (by decide) (by decide) (by decide) (by decide)]
    simp only [upd_at]
    rcases Nat.lt_or_ge j (5 * bs.length + 1) with h | h
    · have hj2 := ck j h
      unfold KR1 at hj2
      obtain ⟨h1, h2, h3, h4⟩ := corner_tail (k, a, b) bs h
      rw [h1, h2, h3, h4]
      simp only [if_neg (show ¬ j = 5 * bs.length + 5 by omega), if_neg (show ¬ j = 5 * bs.length + 4 by omega), if_neg (show ¬ j = 5 * bs.length + 3 by omega), if_neg (show ¬ j = 5 * bs.length + 2 by omega), if_neg (show ¬ j = 5 * bs.length + 1 by omega)]
      exact hj2
    · have hlt : ¬ j < 5 * bs.length + 1 := by omega
      rcases (show j = 5 * bs.length + 1 ∨ j = 5 * bs.length + 2 ∨ j = 5 * bs.length + 3 ∨ j = 5 * bs.length + 4 ∨ j = 5 * bs.length + 5 by omega) with h | h | h | h | h <;> subst h <;>
        simp [cp, cq, cu, cv, hP, hR]
  · exact hB9
