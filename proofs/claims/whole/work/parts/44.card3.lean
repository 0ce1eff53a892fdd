theorem s_setFace {j : Nat} (hj : j < 14) {a b c d : Int32} {w : Wd} {Q : Wd → Prop} (hq : ∀ w' : Wd, (∀ k, k ≠ 5 → k ≠ 6 → k ≠ 7 → k ≠ 8 → w' k = w k) → w' 5 = upd (w 5) j a → w' 6 = upd (w 6) j b → w' 7 = upd (w 7) j c → w' 8 = upd (w 8) j d → Q w') : k_X0_setFace (iI j) a b c d w Q := by
  unfold k_X0_setFace
  have tn : (iI (j : Int)).toNatClampNeg = j := by rw [iI_tn (by omega) (by omega)]; omega
  have hin : vp_in (iI (j : Int)) 14 := (iI_in (by constructor <;> omega)).mpr ⟨by omega, by omega⟩
  rw [tn]
  refine ⟨fun h => absurd h (by simp (disch := first | omega | (constructor <;> omega)) only [li_0, li_1, li_2, li_3, li_4, li_5, li_6, li_7, li_8, li_9, li_10, li_11, li_12, li_13, li_14, li_15, li_16, li_20, li_24, li_25, li_26, li_31, li_40, li_41, li_100, li_169, li_600, li_1000, li_10000, li_100000, lm_1, lm_2, lm_3, lm_4, lm_5, lm_6, lm_600, lm_10000, lm_12, iI_add, iI_sub, iI_mul, iI_neg, iI_lt, iI_le, iI_eq, iI_in, iI_tn]; omega), fun _ => ⟨fun _ => ⟨hin, hin, hin, hin, hq _ (fun k h1 h2 h3 h4 => ?_) ?_ ?_ ?_ ?_⟩, fun h => absurd ?_ h⟩⟩
  · rw [up2_ne h4, up2_ne h3, up2_ne h2, up2_ne h1]
  · rw [up2_ne (by decide), up2_ne (by decide), up2_ne (by decide)]; rfl
  · rw [up2_ne (by decide), up2_ne (by decide)]; rfl
  · rw [up2_ne (by decide)]; rfl
  · rfl
  · simp (disch := first | omega | (constructor <;> omega)) only [li_0, li_1, li_2, li_3, li_4, li_5, li_6, li_7, li_8, li_9, li_10, li_11, li_12, li_13, li_14, li_15, li_16, li_20, li_24, li_25, li_26, li_31, li_40, li_41, li_100, li_169, li_600, li_1000, li_10000, li_100000, lm_1, lm_2, lm_3, lm_4, lm_5, lm_6, lm_600, lm_10000, lm_12, iI_add, iI_sub, iI_mul, iI_neg, iI_lt, iI_le, iI_eq, iI_in, iI_tn]; omega
theorem s_setCorner {j : Nat} (hj : j < 31) {a b c d : Int32} {w : Wd} {Q : Wd → Prop} (hq : ∀ w' : Wd, (∀ k, k ≠ 9 → k ≠ 10 → k ≠ 11 → k ≠ 12 → w' k = w k) → w' 9 = upd (w 9) j a → w' 10 = upd (w 10) j b → w' 11 = upd (w 11) j c → w' 12 = upd (w 12) j d → Q w') : k_X0_setCorner (iI j) a b c d w Q := by
  unfold k_X0_setCorner
  have tn : (iI (j : Int)).toNatClampNeg = j := by rw [iI_tn (by omega) (by omega)]; omega
  have hin : vp_in (iI (j : Int)) 31 := (iI_in (by constructor <;> omega)).mpr ⟨by omega, by omega⟩
  rw [tn]
  refine ⟨fun h => absurd h (by simp (disch := first | omega | (constructor <;> omega)) only [li_0, li_1, li_2, li_3, li_4, li_5, li_6, li_7, li_8, li_9, li_10, li_11, li_12, li_13, li_14, li_15, li_16, li_20, li_24, li_25, li_26, li_31, li_40, li_41, li_100, li_169, li_600, li_1000, li_10000, li_100000, lm_1, lm_2, lm_3, lm_4, lm_5, lm_6, lm_600, lm_10000, lm_12, iI_add, iI_sub, iI_mul, iI_neg, iI_lt, iI_le, iI_eq, iI_in, iI_tn]; omega), fun _ => ⟨fun _ => ⟨hin, hin, hin, hin, hq _ (fun k h1 h2 h3 h4 => ?_) ?_ ?_ ?_ ?_⟩, fun h => absurd ?_ h⟩⟩
  · rw [up2_ne h4, up2_ne h3, up2_ne h2, up2_ne h1]
  · rw [up2_ne (by decide), up2_ne (by decide), up2_ne (by decide)]; rfl
  · rw [up2_ne (by decide), up2_ne (by decide)]; rfl
  · rw [up2_ne (by decide)]; rfl
  · rfl
  · simp (disch := first | omega | (constructor <;> omega)) only [li_0, li_1, li_2, li_3, li_4, li_5, li_6, li_7, li_8, li_9, li_10, li_11, li_12, li_13, li_14, li_15, li_16, li_20, li_24, li_25, li_26, li_31, li_40, li_41, li_100, li_169, li_600, li_1000, li_10000, li_100000, lm_1, lm_2, lm_3, lm_4, lm_5, lm_6, lm_600, lm_10000, lm_12, iI_add, iI_sub, iI_mul, iI_neg, iI_lt, iI_le, iI_eq, iI_in, iI_tn]; omega
theorem s_begin {L : Int} (hL : 4 ≤ L ∧ L ≤ 12) {w : Wd} {Q : Wd → Prop} (hq : ∀ w' : Wd, CR L [] w' → Q w') : k_X0_begin (iI L) w Q := by
  unfold k_X0_begin
  refine s_setFace (j := 0) (by decide) (fun w1 g1 a5 a6 a7 a8 => ?_)
  refine s_setFace (j := 1) (by decide) (fun w2 g2 b5 b6 b7 b8 => ?_)
  refine s_setCorner (j := 0) (by decide) (fun w3 g3 c9 c10 c11 c12 => ?_)
  have e0 : w3 0 0 = iI L := by
    rw [g3 0 (by decide) (by decide) (by decide) (by decide), g2 0 (by decide) (by decide) (by decide) (by decide), g1 0 (by decide) (by decide) (by decide) (by decide), up2_ne (by decide), up2_at, if_pos rfl]
  have e1 : w3 1 0 = iI (([] : List Bx).length : Int) := by
    rw [g3 1 (by decide) (by decide) (by decide) (by decide), g2 1 (by decide) (by decide) (by decide) (by decide), g1 1 (by decide) (by decide) (by decide) (by decide), up2_at, if_pos rfl]
    rfl
  have hF : FR L [] w3 2 := by
    intro j hj
    unfold FR1
    rw [g3 5 (by decide) (by decide) (by decide) (by decide), g3 6 (by decide) (by decide) (by decide) (by decide), g3 7 (by decide) (by decide) (by decide) (by decide), g3 8 (by decide) (by decide) (by decide) (by decide), b5, b6, b7, b8, a5, a6, a7, a8]
    rcases (show j = 0 ∨ j = 1 by omega) with rfl | rfl
    · exact ⟨rfl, rfl, rfl, rfl⟩
    · exact ⟨rfl, rfl, rfl, rfl⟩
  refine s_redraw (L := L) (bs := []) ⟨by omega, hL.2⟩ trivial e1 hF (fun w4 g4 hb => hq w4 ?_)
  refine ⟨?_, ?_, fun i hi => absurd hi (by simp), ?_, ?_, hb⟩
  · rw [g4 0 (by decide) (by decide), e0]
  · rw [g4 1 (by decide) (by decide), e1]
  · intro j hj
    have := hF j hj
    unfold FR1 at this ⊢
    rw [g4 5 (by decide) (by decide), g4 6 (by decide) (by decide), g4 7 (by decide) (by decide), g4 8 (by decide) (by decide)]
    exact this
  · intro j hj
    have : j = 0 := by simp at hj; omega
    subst this
    unfold KR1
    rw [g4 9 (by decide) (by decide), g4 10 (by decide) (by decide), g4 11 (by decide) (by decide), g4 12 (by decide) (by decide), c9, c10, c11, c12]
    exact ⟨rfl, rfl, rfl, rfl⟩
theorem s_isFull {n : Nat} (hn : n ≤ 6) {w : Wd} (h1 : w 1 0 = iI n) {Q : Int32 → Wd → Prop} (q0 : n < 6 → Q 0 w) (q1 : n = 6 → Q 1 w) : k_X0_isFull w Q := by
  unfold k_X0_isFull
  rw [h1]
  refine ⟨fun h => q0 ?_, fun h => q1 ?_⟩
  · revert h; simp (disch := first | omega | (constructor <;> omega)) only [li_0, li_1, li_2, li_3, li_4, li_5, li_6, li_7, li_8, li_9, li_10, li_11, li_12, li_13, li_14, li_15, li_16, li_20, li_24, li_25, li_26, li_31, li_40, li_41, li_100, li_169, li_600, li_1000, li_10000, li_100000, lm_1, lm_2, lm_3, lm_4, lm_5, lm_6, lm_600, lm_10000, lm_12, iI_add, iI_sub, iI_mul, iI_neg, iI_lt, iI_le, iI_eq, iI_in, iI_tn]; omega
  · revert h; simp (disch := first | omega | (constructor <;> omega)) only [li_0, li_1, li_2, li_3, li_4, li_5, li_6, li_7, li_8, li_9, li_10, li_11, li_12, li_13, li_14, li_15, li_16, li_20, li_24, li_25, li_26, li_31, li_40, li_41, li_100, li_169, li_600, li_1000, li_10000, li_100000, lm_1, lm_2, lm_3, lm_4, lm_5, lm_6, lm_600, lm_10000, lm_12, iI_add, iI_sub, iI_mul, iI_neg, iI_lt, iI_le, iI_eq, iI_in, iI_tn]; omega
theorem s_hasCorner {n : Nat} (hn : n ≤ 6) {w : Wd} (h1 : w 1 0 = iI n) {x : Int} (hx : ir x) {Q : Int32 → Wd → Prop} (q1 : 0 ≤ x → x < 5 * n + 1 → Q 1 w) (q0 : ¬ (0 ≤ x ∧ x < 5 * n + 1) → Q 0 w) : k_X0_hasCorner (iI x) w Q := by
  unfold k_X0_hasCorner k_X0_corners
  rw [h1]
  simp (disch := first | omega | (constructor <;> omega)) only [li_0, li_1, li_2, li_3, li_4, li_5, li_6, li_7, li_8, li_9, li_10, li_11, li_12, li_13, li_14, li_15, li_16, li_20, li_24, li_25, li_26, li_31, li_40, li_41, li_100, li_169, li_600, li_1000, li_10000, li_100000, lm_1, lm_2, lm_3, lm_4, lm_5, lm_6, lm_600, lm_10000, lm_12, iI_add, iI_sub, iI_mul, iI_neg, iI_lt, iI_le, iI_eq, iI_in, iI_tn]
  exact ⟨fun h => q0 (by omega), fun h => ⟨fun h2 => q0 (by omega), fun h2 => ⟨fun h3 => absurd h3 (by omega), fun h3 => q1 (by omega) (by omega)⟩⟩⟩
theorem s_hasFace {n : Nat} (hn : n ≤ 6) {w : Wd} (h1 : w 1 0 = iI n) {x : Int} (hx : ir x) {Q : Int32 → Wd → Prop} (q1 : 0 ≤ x → x < 2 * n + 2 → Q 1 w) (q0 : ¬ (0 ≤ x ∧ x < 2 * n + 2) → Q 0 w) : k_X0_hasFace (iI x) w Q := by
  unfold k_X0_hasFace k_X0_faces
  rw [h1]
  simp (disch := first | omega | (constructor <;> omega)) only [li_0, li_1, li_2, li_3, li_4, li_5, li_6, li_7, li_8, li_9, li_10, li_11, li_12, li_13, li_14, li_15, li_16, li_20, li_24, li_25, li_26, li_31, li_40, li_41, li_100, li_169, li_600, li_1000, li_10000, li_100000, lm_1, lm_2, lm_3, lm_4, lm_5, lm_6, lm_600, lm_10000, lm_12, iI_add, iI_sub, iI_mul, iI_neg, iI_lt, iI_le, iI_eq, iI_in, iI_tn]
  exact ⟨fun h => q0 (by omega), fun h => ⟨fun h2 => q0 (by omega), fun h2 => ⟨fun h3 => absurd h3 (by omega), fun h3 => q1 (by omega) (by omega)⟩⟩⟩
theorem BR_tail {L : Int} (x : Bx) {bs : List Bx} {w : Wd} {m : Nat} (h : m ≤ 2 * bs.length + 2) : BR L (x :: bs) w m ↔ BR L bs w m := by
  unfold BR
  constructor
  · intro hb r hr i hi
    obtain ⟨b1, b2, b3, b4⟩ := hb r hr i hi
    rw [(onN_tail x bs h _ _).1] at b3 b4
    rw [(onN_tail x bs h _ _).2.1] at b1
    rw [(onN_tail x bs h _ _).2.2] at b2
    exact ⟨b1, b2, b3, b4⟩
  · intro hb r hr i hi
    rw [(onN_tail x bs h _ _).1, (onN_tail x bs h _ _).1, (onN_tail x bs h _ _).2.1, (onN_tail x bs h _ _).2.2]
    exact hb r hr i hi
theorem s_dropBox {L : Int} {x : Bx} {bs : List Bx} (hL : 1 ≤ L ∧ L ≤ 12) (hv : Val L (x :: bs)) {w : Wd} (hc : CR L (x :: bs) w) {Q : Wd → Prop} (hq : ∀ w' : Wd, CR L bs w' → Q w') : k_X0_dropBox w Q := by
  have hlen := Val_len hv
  obtain ⟨c0, c1, cx, cf, ck, cb⟩ := hc
  simp only [List.length_cons] at c1 cx cf ck cb hlen
  unfold k_X0_dropBox
  rw [c1]
  refine ⟨fun _ => ?_, fun h => absurd h ?_⟩
  · have e : iI ((bs.length + 1 : Nat) : Int) - 1 = iI (bs.length : Int) := by simp only [li_0, li_1, li_2, li_3, li_4, li_5, li_6, li_7, li_8, li_9, li_10, li_11, li_12, li_13, li_14, li_15, li_16, li_20, li_24, li_25, li_26, li_31, li_40, li_41, li_100, li_169, li_600, li_1000, li_10000, li_100000, lm_1, lm_2, lm_3, lm_4, lm_5, lm_6, lm_600, lm_10000, lm_12, iI_add, iI_sub, iI_mul, iI_neg]; congr 1; omega
    rw [e]
    have hF : FR L bs (up2 w 1 0 (iI bs.length)) (2 * bs.length + 2) := by
      intro j hj
      have := cf j (by omega)
      unfold FR1 fline fsta at this ⊢
      obtain ⟨h1, h2, h3, h4⟩ := face_tail (L := L) x bs hj
      rw [h1, h2, h3, h4] at this
      rw [up2_ne (by decide), up2_ne (by decide), up2_ne (by decide), up2_ne (by decide)]
      exact this
    refine s_redraw (L := L) (bs := bs) hL hv.1 (by rw [up2_at, if_pos rfl]) hF (fun w' g hb => hq w' ⟨?_, ?_, ?_, ?_, ?_, hb⟩)
    · rw [g 0 (by decide) (by decide), up2_ne (by decide), c0]
    · rw [g 1 (by decide) (by decide), up2_at, if_pos rfl]
    · intro i hi
      have := cx i (by omega)
      rw [g 2 (by decide) (by decide), g 3 (by decide) (by decide), g 4 (by decide) (by decide), up2_ne (by decide), up2_ne (by decide), up2_ne (by decide)]
      simp only [bx, if_pos hi] at this
      exact this
    · intro j hj
      have := hF j hj
      unfold FR1 at this ⊢
      rw [g 5 (by decide) (by decide), g 6 (by decide) (by decide), g 7 (by decide) (by decide), g 8 (by decide) (by decide)]
      exact this
    · intro j hj
      have := ck j (by omega)
      unfold KR1 at this ⊢
      obtain ⟨h1, h2, h3, h4⟩ := corner_tail x bs hj
      rw [h1, h2, h3, h4] at this
      rw [g 9 (by decide) (by decide), g 10 (by decide) (by decide), g 11 (by decide) (by decide), g 12 (by decide) (by decide), up2_ne (by decide), up2_ne (by decide), up2_ne (by decide), up2_ne (by decide)]
      exact this
  · simp (disch := first | omega | (constructor <;> omega)) only [li_0, li_1, li_2, li_3, li_4, li_5, li_6, li_7, li_8, li_9, li_10, li_11, li_12, li_13, li_14, li_15, li_16, li_20, li_24, li_25, li_26, li_31, li_40, li_41, li_100, li_169, li_600, li_1000, li_10000, li_100000, lm_1, lm_2, lm_3, lm_4, lm_5, lm_6, lm_600, lm_10000, lm_12, iI_add, iI_sub, iI_mul, iI_neg, iI_lt, iI_le, iI_eq, iI_in, iI_tn]; omega
