theorem s_addFace {L : Int} {bs : List Bx} {m : Nat} {w : Wd} {Q : Wd → Prop} (hL : 1 ≤ L ∧ L ≤ 12) (hv : Val L bs) (hm : m < 18) (h7 : w 7 0 = iI m) (hG : GR L bs w m)
    (hq : ∀ w' : Wd, (∀ r, (r ≤ 2 ∨ 8 ≤ r) → r ≠ 13 → r ≠ 14 → r ≠ 15 → w' r = w r) → w' 7 0 = iI ((m + 1 : Nat) : Int) → (∀ j, j ≠ m → w' 3 j = w 3 j ∧ w' 4 j = w 4 j ∧ w' 5 j = w 5 j ∧ w' 6 j = w 6 j) → MF1 L bs w' m → GR L bs w' (m + 1) → Q w') :
    k_X4_addFace (iI (fw bs m)) (iI (fp bs m)) (iI (fq bs m)) (iI (fl L bs m)) w Q := by
  unfold k_X4_addFace
  have r1 : ∀ (i : Nat) (v : Int32), up2 w 3 i v 7 0 = iI m := fun i v => by rw [up2_ne (by decide), h7]
  have r2 : ∀ (i1 i2 : Nat) (v1 v2 : Int32), up2 (up2 w 3 i1 v1) 4 i2 v2 7 0 = iI m := fun i1 i2 v1 v2 => by rw [up2_ne (by decide), up2_ne (by decide), h7]
  have r3 : ∀ (i1 i2 i3 : Nat) (v1 v2 v3 : Int32), up2 (up2 (up2 w 3 i1 v1) 4 i2 v2) 5 i3 v3 7 0 = iI m := fun i1 i2 i3 v1 v2 v3 => by rw [up2_ne (by decide), up2_ne (by decide), up2_ne (by decide), h7]
  have r4 : ∀ (i1 i2 i3 i4 : Nat) (v1 v2 v3 v4 : Int32), up2 (up2 (up2 (up2 w 3 i1 v1) 4 i2 v2) 5 i3 v3) 6 i4 v4 7 0 = iI m := fun i1 i2 i3 i4 v1 v2 v3 v4 => by rw [up2_ne (by decide), up2_ne (by decide), up2_ne (by decide), up2_ne (by decide), h7]
  simp only [h7, r1, r2, r3, r4, tnN (show m < 2147483648 by omega)]
  have hin := inN hm (by decide)
  refine ⟨hin, hin, hin, hin, ?_⟩
  obtain ⟨W, hW⟩ : ∃ W : Wd, W = up2 (up2 (up2 (up2 w 3 m (iI (fw bs m))) 4 m (iI (fp bs m))) 5 m (iI (fq bs m))) 6 m (iI (fl L bs m)) := ⟨_, rfl⟩
  rw [← hW]
  have W3 : ∀ j, W 3 j = if j = m then iI (fw bs m) else w 3 j := fun j => by rw [hW, up2_ne (by decide), up2_ne (by decide), up2_ne (by decide), up2_at]
  have W4 : ∀ j, W 4 j = if j = m then iI (fp bs m) else w 4 j := fun j => by rw [hW, up2_ne (by decide), up2_ne (by decide), up2_at, up2_ne (by decide)]
  have W5 : ∀ j, W 5 j = if j = m then iI (fq bs m) else w 5 j := fun j => by rw [hW, up2_ne (by decide), up2_at, up2_ne (by decide), up2_ne (by decide)]
  have W6 : ∀ j, W 6 j = if j = m then iI (fl L bs m) else w 6 j := fun j => by rw [hW, up2_at, up2_ne (by decide), up2_ne (by decide), up2_ne (by decide)]
  have Wr : ∀ r, r ≠ 3 → r ≠ 4 → r ≠ 5 → r ≠ 6 → W r = w r := fun r h3 h4 h5 h6 => by rw [hW, up2_ne h6, up2_ne h5, up2_ne h4, up2_ne h3]
  refine s_mark (by' := 1) hL hv hm ⟨by rw [W3, if_pos rfl], by rw [W4, if_pos rfl], by rw [W5, if_pos rfl], by rw [W6, if_pos rfl]⟩ (fun w1 g1 g2 => ?_)
  have e7 : w1 7 0 = iI m := by rw [g1 7 (by decide) (by decide) (by decide), Wr 7 (by decide) (by decide) (by decide) (by decide), h7]
  rw [e7]
  have el : iI (m : Int) + 1 = iI ((m + 1 : Nat) : Int) := by simp only [li_0, li_1, li_2, li_3, li_4, li_5, li_6, li_7, li_8, li_9, li_10, li_11, li_12, li_13, li_14, li_15, li_16, li_20, li_24, li_25, li_26, li_31, li_40, li_41, li_100, li_169, li_600, li_1000, li_10000, li_100000, lm_1, lm_2, lm_3, lm_4, lm_5, lm_6, lm_600, lm_10000, lm_12, iI_add, iI_sub, iI_mul, iI_neg]; rfl
  rw [el]
  refine hq _ (fun r h1 h2 h3 h4 => ?_) ?_ (fun j hj => ?_) ?_ (fun p hp q hq' => ?_)
  · rw [up2_ne (by omega), g1 r h2 h3 h4, Wr r (by omega) (by omega) (by omega) (by omega)]
  · rw [up2_at, if_pos rfl]
  · rw [up2_ne (by decide), up2_ne (by decide), up2_ne (by decide), up2_ne (by decide), g1 3 (by decide) (by decide) (by decide), g1 4 (by decide) (by decide) (by decide), g1 5 (by decide) (by decide) (by decide), g1 6 (by decide) (by decide) (by decide), W3, W4, W5, W6, if_neg hj, if_neg hj, if_neg hj, if_neg hj]
    exact ⟨rfl, rfl, rfl, rfl⟩
  · unfold MF1
    rw [up2_ne (by decide), up2_ne (by decide), up2_ne (by decide), up2_ne (by decide), g1 3 (by decide) (by decide) (by decide), g1 4 (by decide) (by decide) (by decide), g1 5 (by decide) (by decide) (by decide), g1 6 (by decide) (by decide) (by decide), W3, W4, W5, W6, if_pos rfl, if_pos rfl, if_pos rfl, if_pos rfl]
    exact ⟨rfl, rfl, rfl, rfl⟩
  · obtain ⟨a1, a2, a3⟩ := g2 p hp q hq'
    obtain ⟨b1, b2, b3⟩ := hG p hp q hq'
    rw [up2_ne (by decide), up2_ne (by decide), up2_ne (by decide), a1, a2, a3, Wr 13 (by decide) (by decide) (by decide) (by decide), Wr 14 (by decide) (by decide) (by decide) (by decide), Wr 15 (by decide) (by decide) (by decide) (by decide), b1, b2, b3]
    unfold spN sqN onN
    rw [fb_ct_succ, fb_ct_succ, fb_ct_succ]
    refine ⟨?_, ?_, ?_⟩
    · cases spB L bs p q m <;> simp [iI_add]
    · cases sqB L bs p q m <;> simp [iI_add]
    · cases onB L bs p q m <;> simp [iI_add]
theorem s_addFaceE {L : Int} {bs : List Bx} {m : Nat} {w : Wd} {Q : Wd → Prop} {wy p q ll : Int} (e1 : fw bs m = wy) (e2 : fp bs m = p) (e3 : fq bs m = q) (e4 : fl L bs m = ll) (hL : 1 ≤ L ∧ L ≤ 12) (hv : Val L bs) (hm : m < 18) (h7 : w 7 0 = iI m) (hG : GR L bs w m)
    (hq : ∀ w' : Wd, (∀ r, (r ≤ 2 ∨ 8 ≤ r) → r ≠ 13 → r ≠ 14 → r ≠ 15 → w' r = w r) → w' 7 0 = iI ((m + 1 : Nat) : Int) → (∀ j, j ≠ m → w' 3 j = w 3 j ∧ w' 4 j = w 4 j ∧ w' 5 j = w 5 j ∧ w' 6 j = w 6 j) → MF1 L bs w' m → GR L bs w' (m + 1) → Q w') :
    k_X4_addFace (iI wy) (iI p) (iI q) (iI ll) w Q := by
  subst e1; subst e2; subst e3; subst e4
  exact s_addFace hL hv hm h7 hG hq
theorem s_addCorner {m : Nat} {w : Wd} {a b c d : Int32} {Q : Wd → Prop} (hm : m < 41) (h12 : w 12 0 = iI m) (hq : ∀ w' : Wd, (∀ r, r ≠ 8 → r ≠ 9 → r ≠ 10 → r ≠ 11 → r ≠ 12 → w' r = w r) → w' 12 0 = iI ((m + 1 : Nat) : Int) → w' 8 = upd (w 8) m a → w' 9 = upd (w 9) m b → w' 10 = upd (w 10) m c → w' 11 = upd (w 11) m d → Q w') : k_X4_addCorner a b c d w Q := by
  unfold k_X4_addCorner
  have r1 : ∀ (i : Nat) (v : Int32), up2 w 8 i v 12 0 = iI m := fun i v => by rw [up2_ne (by decide), h12]
  have r2 : ∀ (i1 i2 : Nat) (v1 v2 : Int32), up2 (up2 w 8 i1 v1) 9 i2 v2 12 0 = iI m := fun i1 i2 v1 v2 => by rw [up2_ne (by decide), up2_ne (by decide), h12]
  have r3 : ∀ (i1 i2 i3 : Nat) (v1 v2 v3 : Int32), up2 (up2 (up2 w 8 i1 v1) 9 i2 v2) 10 i3 v3 12 0 = iI m := fun i1 i2 i3 v1 v2 v3 => by rw [up2_ne (by decide), up2_ne (by decide), up2_ne (by decide), h12]
  have r4 : ∀ (i1 i2 i3 i4 : Nat) (v1 v2 v3 v4 : Int32), up2 (up2 (up2 (up2 w 8 i1 v1) 9 i2 v2) 10 i3 v3) 11 i4 v4 12 0 = iI m := fun i1 i2 i3 i4 v1 v2 v3 v4 => by rw [up2_ne (by decide), up2_ne (by decide), up2_ne (by decide), up2_ne (by decide), h12]
  simp only [h12, r1, r2, r3, r4, tnN (show m < 2147483648 by omega)]
  have hin := inN hm (by decide)
  have el : iI (m : Int) + 1 = iI ((m + 1 : Nat) : Int) := by simp only [li_0, li_1, li_2, li_3, li_4, li_5, li_6, li_7, li_8, li_9, li_10, li_11, li_12, li_13, li_14, li_15, li_16, li_20, li_24, li_25, li_26, li_31, li_40, li_41, li_100, li_169, li_600, li_1000, li_10000, li_100000, lm_1, lm_2, lm_3, lm_4, lm_5, lm_6, lm_600, lm_10000, lm_12, iI_add, iI_sub, iI_mul, iI_neg]; rfl
  rw [el]
  refine ⟨hin, hin, hin, hin, hq _ (fun r h1 h2 h3 h4 h5 => ?_) ?_ ?_ ?_ ?_ ?_⟩
  · rw [up2_ne h5, up2_ne h4, up2_ne h3, up2_ne h2, up2_ne h1]
  · rw [up2_at, if_pos rfl]
  · rw [up2_ne (by decide), up2_ne (by decide), up2_ne (by decide), up2_ne (by decide)]; rfl
  · rw [up2_ne (by decide), up2_ne (by decide), up2_ne (by decide)]; rfl
  · rw [up2_ne (by decide), up2_ne (by decide)]; rfl
  · rw [up2_ne (by decide)]; rfl
theorem s_less {x y : Int} (hx : ir x) (hy : ir y) {Q : Int32 → Prop} (hq : Q (iI (min x y))) : k_X4_less (iI x) (iI y) Q := by
  unfold k_X4_less
  rw [iI_le hy hx]
  refine ⟨fun h => ?_, fun h => ?_⟩
  · rw [show min x y = y by omega] at hq; exact hq
  · rw [show min x y = x by omega] at hq; exact hq
theorem GR_tail {L : Int} (x : Bx) {bs : List Bx} {w : Wd} {m : Nat} (h : m ≤ 2 * bs.length + 2) : GR L (x :: bs) w m ↔ GR L bs w m := by
  unfold GR
  constructor
  · intro hb p hp q hq
    have := hb p hp q hq
    rw [(onN_tail x bs h _ _).1, (onN_tail x bs h _ _).2.1, (onN_tail x bs h _ _).2.2] at this
    exact this
  · intro hb p hp q hq
    rw [(onN_tail x bs h _ _).1, (onN_tail x bs h _ _).2.1, (onN_tail x bs h _ _).2.2]
    exact hb p hp q hq
theorem s_push {L : Int} {k : Nat} {a b : Int} {bs : List Bx} (hL : 4 ≤ L ∧ L ≤ 12) (hv : Val L ((k, a, b) :: bs)) {w : Wd} (hc : ML L bs w) {Q : Wd → Prop} (hq : ∀ w' : Wd, (∀ r, (r ≤ 2 ∨ 16 ≤ r) → w' r = w r) → ML L ((k, a, b) :: bs) w' → Q w') : k_X4_push (iI k) (iI a) (iI b) w Q := by
  obtain ⟨hv0, hlen, hk, ha, hb, t1, t2, t3⟩ := id hv
  dsimp only at hk ha hb t1 t2 t3
  obtain ⟨c7, c12, cf, ck, cg⟩ := hc
  have t0 := ctri (by omega) hv0 k
  unfold tri at t0 t1 t2 t3
  have hin := inN (show k < 41 by omega) (by decide)
  obtain ⟨k8, k9, k10, k11⟩ := ck k hk
  unfold k_X4_push
  refine ⟨hin, hin, hin, hin, ?_⟩
  simp only [tnN (show k < 2147483648 by omega), k8, k9, k10, k11, iI_mul, iI_add, iI_neg]
  generalize hP : cp bs k + cu bs k * a = P at t1 t3 ⊢
  generalize hR : cq bs k + cv bs k * b = R at t2 t3 ⊢
  refine s_less (by constructor <;> omega) (by constructor <;> omega) ?_
  have n1 : ¬ 2 * bs.length + 2 < 2 * bs.length + 2 := by omega
  have n2 : ¬ 2 * bs.length + 3 < 2 * bs.length + 2 := by omega
  have n3 : ¬ 2 * bs.length + 3 = 2 * bs.length + 2 := by omega
  have A1 : fw ((k, a, b) :: bs) (2 * bs.length + 2) = 1 := by simp only [fw, if_neg n1, if_true]
  have A2 : fp ((k, a, b) :: bs) (2 * bs.length + 2) = P := by simp only [fp, if_neg n1, if_true, hP]
  have A3 : fq ((k, a, b) :: bs) (2 * bs.length + 2) = min (cq bs k) R := by simp only [fq, if_neg n1, if_true, hR]
  have A4 : fl L ((k, a, b) :: bs) (2 * bs.length + 2) = b := by simp only [fl, if_neg n1, if_true]
  have B1 : fw ((k, a, b) :: bs) (2 * bs.length + 3) = 0 := by simp only [fw, if_neg n2, if_neg n3]
  have B2 : fp ((k, a, b) :: bs) (2 * bs.length + 3) = min (cp bs k) P := by simp only [fp, if_neg n2, if_neg n3, hP]
  have B3 : fq ((k, a, b) :: bs) (2 * bs.length + 3) = R := by simp only [fq, if_neg n2, if_neg n3, hR]
  have B4 : fl L ((k, a, b) :: bs) (2 * bs.length + 3) = a := by simp only [fl, if_neg n2, if_neg n3]
  refine s_addFaceE (L := L) (bs := (k, a, b) :: bs) (m := 2 * bs.length + 2) A1 A2 A3 A4 ⟨by omega, hL.2⟩ hv (by omega) c7 ((GR_tail _ (Nat.le_refl _)).mpr cg) (fun w1 g1 e1 o1 m1 G1 => ?_)
  refine s_less (by constructor <;> omega) (by constructor <;> omega) ?_
  refine s_addFaceE (L := L) (bs := (k, a, b) :: bs) (m := 2 * bs.length + 3) B1 B2 B3 B4 ⟨by omega, hL.2⟩ hv (by omega) e1 G1 (fun w2 g2 e2 o2 m2 G2 => ?_)
  have c2 : w2 12 0 = iI ((5 * bs.length + 1 : Nat) : Int) := by
    rw [g2 12 (by decide) (by decide) (by decide) (by decide), g1 12 (by decide) (by decide) (by decide) (by decide), c12]; rfl
  refine s_addCorner (m := 5 * bs.length + 1) (by omega) c2 (fun w3 g3 d3 x8 x9 x10 x11 => ?_)
  refine s_addCorner (m := 5 * bs.length + 2) (by omega) d3 (fun w4 g4 d4 y8 y9 y10 y11 => ?_)
  refine s_addCorner (m := 5 * bs.length + 3) (by omega) d4 (fun w5 g5 d5 z8 z9 z10 z11 => ?_)
  refine s_addCorner (m := 5 * bs.length + 4) (by omega) d5 (fun w6 g6 d6 u8 u9 u10 u11 => ?_)
  refine s_addCorner (m := 5 * bs.length + 5) (by omega) d6 (fun w7 g7 d7 v8 v9 v10 v11 => ?_)
  have far : ∀ r, r ≠ 8 → r ≠ 9 → r ≠ 10 → r ≠ 11 → r ≠ 12 → w7 r = w2 r := fun r h1 h2 h3 h4 h5 => by
    rw [g7 r h1 h2 h3 h4 h5, g6 r h1 h2 h3 h4 h5, g5 r h1 h2 h3 h4 h5, g4 r h1 h2 h3 h4 h5, g3 r h1 h2 h3 h4 h5]
  have near : ∀ r, (r ≤ 2 ∨ 8 ≤ r) → r ≠ 13 → r ≠ 14 → r ≠ 15 → w2 r = w r := fun r h1 h2 h3 h4 => by rw [g2 r h1 h2 h3 h4, g1 r h1 h2 h3 h4]
  refine hq w7 (fun r hr => ?_) ⟨?_, ?_, fun j hj => ?_, fun j hj => ?_, ?_⟩
  · rw [far r (by omega) (by omega) (by omega) (by omega) (by omega), near r (by omega) (by omega) (by omega) (by omega)]
  · rw [far 7 (by decide) (by decide) (by decide) (by decide) (by decide), e2]
    simp only [List.length_cons]
    congr 1
  · rw [d7]
    simp only [List.length_cons]
    congr 1
  · simp only [List.length_cons] at hj
    unfold MF1
    rw [far 3 (by decide) (by decide) (by decide) (by decide) (by decide), far 4 (by decide) (by decide) (by decide) (by decide) (by decide), far 5 (by decide) (by decide) (by decide) (by decide) (by decide), far 6 (by decide) (by decide) (by decide) (by decide) (by decide)]
    by_cases h3 : j = 2 * bs.length + 3
    · subst h3; exact m2
    · obtain ⟨p3, p4, p5, p6⟩ := o2 j h3
      rw [p3, p4, p5, p6]
      by_cases h2 : j = 2 * bs.length + 2
      · subst h2; exact m1
      · obtain ⟨s3, s4, s5, s6⟩ := o1 j h2
        obtain ⟨h1, h2, h3, h4⟩ := face_tail (L := L) (k, a, b) bs (j := j) (by omega)
        rw [s3, s4, s5, s6, h1, h2, h3, h4]
        exact cf j (by omega)
  · simp only [List.length_cons] at hj
    unfold MK1
    rw [v8, v9, v10, v11, u8, u9, u10, u11, z8, z9, z10, z11, y8, y9, y10, y11, x8, x9, x10, x11, near 8 (by decide) (by decide) (by decide) (by decide), near 9 (by decide) (by decide) (by decide) (by decide), near 10 (by decide) (by decide) (by decide) (by decide), near 11 (by decide) (by decide) (by decide) (by decide)]
    simp only [upd_at]
    rcases Nat.lt_or_ge j (5 * bs.length + 1) with h | h
    · have hj2 := ck j h
      unfold MK1 at hj2
      obtain ⟨h1, h2, h3, h4⟩ := corner_tail (k, a, b) bs h
      rw [h1, h2, h3, h4]
      simp only [if_neg (show ¬ j = 5 * bs.length + 5 by omega), if_neg (show ¬ j = 5 * bs.length + 4 by omega), if_neg (show ¬ j = 5 * bs.length + 3 by omega), if_neg (show ¬ j = 5 * bs.length + 2 by omega), if_neg (show ¬ j = 5 * bs.length + 1 by omega)]
      exact hj2
    · rcases (show j = 5 * bs.length + 1 ∨ j = 5 * bs.length + 2 ∨ j = 5 * bs.length + 3 ∨ j = 5 * bs.length + 4 ∨ j = 5 * bs.length + 5 by omega) with h | h | h | h | h <;> subst h <;>
        simp [cp, cq, cu, cv, hP, hR]
  · unfold GR at G2 ⊢
    rw [far 13 (by decide) (by decide) (by decide) (by decide) (by decide), far 14 (by decide) (by decide) (by decide) (by decide) (by decide), far 15 (by decide) (by decide) (by decide) (by decide) (by decide)]
    exact G2
theorem GR_pred {L : Int} {bs : List Bx} {w w' : Wd} {m : Nat} (hG : GR L bs w (m + 1)) (hg : ∀ p : Nat, p < 13 → ∀ q : Nat, q < 13 → w' 13 (13 * q + p) = (if spB L bs p q m = true then w 13 (13 * q + p) + iI (-1) else w 13 (13 * q + p)) ∧ w' 14 (13 * q + p) = (if sqB L bs p q m = true then w 14 (13 * q + p) + iI (-1) else w 14 (13 * q + p)) ∧ w' 15 (13 * q + p) = (if onB L bs p q m = true then w 15 (13 * q + p) + iI (-1) else w 15 (13 * q + p))) : GR L bs w' m := by
  intro p hp q hq
  obtain ⟨a1, a2, a3⟩ := hg p hp q hq
  obtain ⟨b1, b2, b3⟩ := hG p hp q hq
  rw [a1, a2, a3, b1, b2, b3]
  unfold spN sqN onN
  rw [fb_ct_succ, fb_ct_succ, fb_ct_succ]
  refine ⟨?_, ?_, ?_⟩
  · cases spB L bs p q m
    · simp
    · simp only [if_true, iI_add]; congr 1; omega
  · cases sqB L bs p q m
    · simp
    · simp only [if_true, iI_add]; congr 1; omega
  · cases onB L bs p q m
    · simp
    · simp only [if_true, iI_add]; congr 1; omega
theorem s_pop {L : Int} {x : Bx} {bs : List Bx} (hL : 4 ≤ L ∧ L ≤ 12) (hv : Val L (x :: bs)) {w : Wd} (hc : ML L (x :: bs) w) {Q : Wd → Prop} (hq : ∀ w' : Wd, (∀ r, (r ≤ 2 ∨ 16 ≤ r) → w' r = w r) → ML L bs w' → Q w') : k_X4_pop w Q := by
  have hlen := Val_len hv
  obtain ⟨c7, c12, cf, ck, cg⟩ := hc
  simp only [List.length_cons] at c7 c12 cf ck cg hlen
  unfold k_X4_pop
  refine lpf_run (fun u => ∃ k : Nat, k ≤ 2 ∧ u.1 = iI k ∧ (∀ r, r ≠ 7 → r ≠ 13 → r ≠ 14 → r ≠ 15 → u.2 r = w r) ∧ u.2 7 0 = iI ((2 * bs.length + 4 - k : Nat) : Int) ∧ GR L (x :: bs) u.2 (2 * bs.length + 4 - k)) (fun u => 2 - u.1.toNatClampNeg) _ ⟨0, by omega, rfl, fun _ _ _ _ _ => rfl, ?_, ?_⟩ ?_
  · dsimp only
    rw [c7]
    congr 1
  · exact cg
  rintro K ⟨a1, w1⟩ ⟨k, hk, e1, hr, h7, hG⟩ ih
  dsimp only at e1 hr h7 hG ih ⊢
  subst e1
  unfold k_X4_pop_2
  rw [li_2, iI_le (by constructor <;> omega) (by constructor <;> omega)]
  refine ⟨fun h => ?_, fun h => ?_⟩
  · have : k = 2 := by omega
    subst this
    refine hq _ (fun r hr2 => ?_) ⟨?_, ?_, fun j hj => ?_, fun j hj => ?_, ?_⟩
    · rw [up2_ne (by omega), hr r (by omega) (by omega) (by omega) (by omega)]
    · rw [up2_ne (by decide), h7]
      congr 1
    · rw [up2_at, if_pos rfl, hr 12 (by decide) (by decide) (by decide) (by decide), c12]
      simp only [li_0, li_1, li_2, li_3, li_4, li_5, li_6, li_7, li_8, li_9, li_10, li_11, li_12, li_13, li_14, li_15, li_16, li_20, li_24, li_25, li_26, li_31, li_40, li_41, li_100, li_169, li_600, li_1000, li_10000, li_100000, lm_1, lm_2, lm_3, lm_4, lm_5, lm_6, lm_600, lm_10000, lm_12, iI_add, iI_sub, iI_mul, iI_neg]
      congr 1; omega
    · have := cf j (by omega)
      unfold MF1 at this ⊢
      obtain ⟨h1, h2, h3, h4⟩ := face_tail (L := L) x bs hj
      rw [h1, h2, h3, h4] at this
      rw [up2_ne (by decide), up2_ne (by decide), up2_ne (by decide), up2_ne (by decide), hr 3 (by decide) (by decide) (by decide) (by decide), hr 4 (by decide) (by decide) (by decide) (by decide), hr 5 (by decide) (by decide) (by decide) (by decide), hr 6 (by decide) (by decide) (by decide) (by decide)]
      exact this
    · have := ck j (by omega)
      unfold MK1 at this ⊢
      obtain ⟨h1, h2, h3, h4⟩ := corner_tail x bs hj
      rw [h1, h2, h3, h4] at this
      rw [up2_ne (by decide), up2_ne (by decide), up2_ne (by decide), up2_ne (by decide), hr 8 (by decide) (by decide) (by decide) (by decide), hr 9 (by decide) (by decide) (by decide) (by decide), hr 10 (by decide) (by decide) (by decide) (by decide), hr 11 (by decide) (by decide) (by decide) (by decide)]
      exact this
    · have := (GR_tail (L := L) x (bs := bs) (w := w1) (m := 2 * bs.length + 2) (Nat.le_refl _)).mp hG
      unfold GR at this ⊢
      rw [up2_ne (by decide), up2_ne (by decide), up2_ne (by decide)]
      exact this
  · rw [h7]
    have e2 : iI ((2 * bs.length + 4 - k : Nat) : Int) - 1 = iI ((2 * bs.length + 4 - (k + 1) : Nat) : Int) := by
      simp only [li_0, li_1, li_2, li_3, li_4, li_5, li_6, li_7, li_8, li_9, li_10, li_11, li_12, li_13, li_14, li_15, li_16, li_20, li_24, li_25, li_26, li_31, li_40, li_41, li_100, li_169, li_600, li_1000, li_10000, li_100000, lm_1, lm_2, lm_3, lm_4, lm_5, lm_6, lm_600, lm_10000, lm_12, iI_add, iI_sub, iI_mul, iI_neg]
      congr 1; omega
    rw [e2, up2_at, if_pos rfl]
    have e5 : iI (k : Int) + 1 = iI ((k + 1 : Nat) : Int) := by simp only [li_0, li_1, li_2, li_3, li_4, li_5, li_6, li_7, li_8, li_9, li_10, li_11, li_12, li_13, li_14, li_15, li_16, li_20, li_24, li_25, li_26, li_31, li_40, li_41, li_100, li_169, li_600, li_1000, li_10000, li_100000, lm_1, lm_2, lm_3, lm_4, lm_5, lm_6, lm_600, lm_10000, lm_12, iI_add, iI_sub, iI_mul, iI_neg]; rfl
    refine s_mark (by' := -1) (bs := x :: bs) (j := 2 * bs.length + 4 - (k + 1)) ⟨by omega, hL.2⟩ hv (by omega) ?_ (fun w2 g2 hg2 => ?_)
    · have := cf (2 * bs.length + 4 - (k + 1)) (by omega)
      unfold MF1 at this ⊢
      rw [up2_ne (by decide), up2_ne (by decide), up2_ne (by decide), up2_ne (by decide), hr 3 (by decide) (by decide) (by decide) (by decide), hr 4 (by decide) (by decide) (by decide) (by decide), hr 5 (by decide) (by decide) (by decide) (by decide), hr 6 (by decide) (by decide) (by decide) (by decide)]
      exact this
    · rw [e5]
      refine ih _ ⟨k + 1, by omega, rfl, fun r h1 h2 h3 h4 => ?_, ?_, ?_⟩ ?_
      · dsimp only
        rw [g2 r h2 h3 h4, up2_ne h1, hr r h1 h2 h3 h4]
      · dsimp only
        rw [g2 7 (by decide) (by decide) (by decide), up2_at, if_pos rfl]
      · dsimp only
        refine GR_pred (w := w1) ?_ (fun p hp q hq' => ?_)
        · rw [show 2 * bs.length + 4 - (k + 1) + 1 = 2 * bs.length + 4 - k by omega]
          exact hG
        · have := hg2 p hp q hq'
          rw [up2_ne (by decide), up2_ne (by decide), up2_ne (by decide)] at this
          exact this
      · dsimp only
        rw [tnN (by omega), tnN (by omega)]
        omega
