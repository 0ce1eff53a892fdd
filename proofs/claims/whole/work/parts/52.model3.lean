theorem s_lay {L : Int} {bs : List Bx} (hL : 4 ≤ L ∧ L ≤ 12) (hv : Val L bs) {w : Wd} (hm : MRow (w 0) L bs) {Q : Wd → Prop} (hq : ∀ w' : Wd, (∀ r, (r ≤ 2 ∨ 16 ≤ r) → w' r = w r) → ML L bs w' → Q w') : k_X4_lay w Q := by
  have hlen := Val_len hv
  obtain ⟨m0, m1, mb⟩ := hm
  unfold k_X4_lay
  refine lpf_run (fun u => ∃ n : Nat, n ≤ 169 ∧ u.1 = iI n ∧ (∀ r, r ≠ 13 → r ≠ 14 → r ≠ 15 → u.2 r = up2 (up2 w 7 0 0) 12 0 0 r) ∧ ∀ i, i < n → u.2 13 i = 0 ∧ u.2 14 i = 0 ∧ u.2 15 i = 0) (fun u => 169 - u.1.toNatClampNeg) _ ⟨0, by omega, rfl, fun _ _ _ _ => rfl, fun i hi => absurd hi (by omega)⟩ ?_
  rintro K ⟨a1, w1⟩ ⟨n, hn, e1, hr, hz⟩ ih
  dsimp only at e1 hr hz ih ⊢
  subst e1
  unfold k_X4_lay_12
  have e5 : iI (n : Int) + 1 = iI ((n + 1 : Nat) : Int) := by simp only [li_0, li_1, li_2, li_3, li_4, li_5, li_6, li_7, li_8, li_9, li_10, li_11, li_12, li_13, li_14, li_15, li_16, li_20, li_24, li_25, li_26, li_31, li_40, li_41, li_100, li_169, li_600, li_1000, li_10000, li_100000, lm_1, lm_2, lm_3, lm_4, lm_5, lm_6, lm_600, lm_10000, lm_12, iI_add, iI_sub, iI_mul, iI_neg]; rfl
  rw [e5, li_169, iI_le (by constructor <;> omega) (by constructor <;> omega), tnN (by omega)]
  refine ⟨fun h => ⟨inN (n := 0) (by decide) (by decide), ?_⟩, fun h => ?_⟩
  · have : n = 169 := by omega
    subst this
    have z0 : ((0 : Int32)).toNatClampNeg = 0 := rfl
    have o1 : ((1 : Int32)).toNatClampNeg = 1 := rfl
    have h0 : ∀ r, r ≤ 2 ∨ 16 ≤ r → w1 r = w r := fun r h => by
      rw [hr r (by omega) (by omega) (by omega), up2_ne (by omega), up2_ne (by omega)]
    rw [z0, h0 0 (by omega), m0]
    refine s_addFaceE (L := L) (bs := []) (m := 0) rfl rfl rfl rfl ⟨by omega, hL.2⟩ trivial (by decide) ?_ ?_ (fun w2 g2 e2 _ mf2 G2 => ⟨inN (n := 0) (by decide) (by decide), ?_⟩)
    · rw [hr 7 (by decide) (by decide) (by decide), up2_ne (by decide), up2_at, if_pos rfl]; rfl
    · intro p hp q hq'
      obtain ⟨a, b, c⟩ := hz (13 * q + p) (by omega)
      rw [a, b, c]
      exact ⟨rfl, rfl, rfl⟩
    rw [g2 0 (by omega) (by decide) (by decide) (by decide), h0 0 (by omega), m0]
    refine s_addFaceE (L := L) (bs := []) (m := 1) rfl rfl rfl rfl ⟨by omega, hL.2⟩ trivial (by decide) e2 G2 (fun w3 g3 e3 o3 mf3 G3 => ?_)
    refine s_addCorner (m := 0) (by decide) ?_ (fun w4 g4 e4 x8 x9 x10 x11 => ?_)
    · rw [g3 12 (by omega) (by decide) (by decide) (by decide), g2 12 (by omega) (by decide) (by decide) (by decide), hr 12 (by decide) (by decide) (by decide), up2_at, if_pos rfl]; rfl
    have hb : ∀ r, r ≤ 2 ∨ 16 ≤ r → w4 r = w r := fun r h => by
      rw [g4 r (by omega) (by omega) (by omega) (by omega) (by omega), g3 r (by omega) (by omega) (by omega) (by omega), g2 r (by omega) (by omega) (by omega) (by omega), h0 r h]
    have hML : ML L [] w4 := by
      refine ⟨?_, ?_, fun j hj => ?_, fun j hj => ?_, ?_⟩
      · rw [g4 7 (by decide) (by decide) (by decide) (by decide) (by decide), e3]; rfl
      · rw [e4]; rfl
      · have : j < 2 := hj
        unfold MF1
        rw [g4 3 (by decide) (by decide) (by decide) (by decide) (by decide), g4 4 (by decide) (by decide) (by decide) (by decide) (by decide), g4 5 (by decide) (by decide) (by decide) (by decide) (by decide), g4 6 (by decide) (by decide) (by decide) (by decide) (by decide)]
        rcases (show j = 0 ∨ j = 1 by omega) with rfl | rfl
        · obtain ⟨p3, p4, p5, p6⟩ := o3 0 (by decide)
          rw [p3, p4, p5, p6]
          exact mf2
        · exact mf3
      · have : j < 1 := hj
        have : j = 0 := by omega
        subst this
        unfold MK1
        rw [x8, x9, x10, x11]
        exact ⟨rfl, rfl, rfl, rfl⟩
      · unfold GR at G3 ⊢
        rw [g4 13 (by decide) (by decide) (by decide) (by decide) (by decide), g4 14 (by decide) (by decide) (by decide) (by decide) (by decide), g4 15 (by decide) (by decide) (by decide) (by decide) (by decide)]
        exact G3
    clear ih
    refine lpf_run (fun u => ∃ i : Nat, i ≤ bs.length ∧ u.1 = iI i ∧ (∀ r, r ≤ 2 ∨ 16 ≤ r → u.2 r = w r) ∧ ML L (bs.drop (bs.length - i)) u.2) (fun u => bs.length - u.1.toNatClampNeg) _ ⟨0, by omega, rfl, hb, by simpa using hML⟩ ?_
    rintro K2 ⟨b1, w5⟩ ⟨i, hi, f1, hb5, hc5⟩ ih
    dsimp only at f1 hb5 hc5 ih ⊢
    subst f1
    unfold k_X4_lay_82
    rw [o1, hb5 0 (by omega), m1, iI_le (by constructor <;> omega) (by constructor <;> omega)]
    refine ⟨inN (n := 1) (by decide) (by decide), fun h => ?_, fun h => ?_⟩
    · have : i = bs.length := by omega
      subst this
      rw [show bs.length - bs.length = 0 by omega] at hc5
      exact hq w5 hb5 hc5
    · have hlt : i < bs.length := by omega
      obtain ⟨x2, x3, x4⟩ := mb i hlt
      have y2 : (2 : Int32) + 3 * iI (i : Int) = iI ((2 + 3 * i : Nat) : Int) := by simp only [li_0, li_1, li_2, li_3, li_4, li_5, li_6, li_7, li_8, li_9, li_10, li_11, li_12, li_13, li_14, li_15, li_16, li_20, li_24, li_25, li_26, li_31, li_40, li_41, li_100, li_169, li_600, li_1000, li_10000, li_100000, lm_1, lm_2, lm_3, lm_4, lm_5, lm_6, lm_600, lm_10000, lm_12, iI_add, iI_sub, iI_mul, iI_neg]; congr 1
      have y3 : iI ((2 + 3 * i : Nat) : Int) + 1 = iI ((3 + 3 * i : Nat) : Int) := by simp only [li_0, li_1, li_2, li_3, li_4, li_5, li_6, li_7, li_8, li_9, li_10, li_11, li_12, li_13, li_14, li_15, li_16, li_20, li_24, li_25, li_26, li_31, li_40, li_41, li_100, li_169, li_600, li_1000, li_10000, li_100000, lm_1, lm_2, lm_3, lm_4, lm_5, lm_6, lm_600, lm_10000, lm_12, iI_add, iI_sub, iI_mul, iI_neg]; congr 1; omega
      have y4 : iI ((2 + 3 * i : Nat) : Int) + 2 = iI ((4 + 3 * i : Nat) : Int) := by simp only [li_0, li_1, li_2, li_3, li_4, li_5, li_6, li_7, li_8, li_9, li_10, li_11, li_12, li_13, li_14, li_15, li_16, li_20, li_24, li_25, li_26, li_31, li_40, li_41, li_100, li_169, li_600, li_1000, li_10000, li_100000, lm_1, lm_2, lm_3, lm_4, lm_5, lm_6, lm_600, lm_10000, lm_12, iI_add, iI_sub, iI_mul, iI_neg]; congr 1; omega
      rw [y2, y3, y4, tnN (by omega), tnN (by omega), tnN (by omega), x2, x3, x4]
      refine ⟨inN (by omega) (by decide), inN (by omega) (by decide), inN (by omega) (by decide), ?_⟩
      have hp := pre_succ hlt
      refine s_push hL (bs := bs.drop (bs.length - i)) ?_ hc5 (fun w6 h6 h3 => ?_)
      · have := Val_drop (L := L) (bs.length - (i + 1)) hv
        rw [hp] at this
        exact this
      · have e6 : iI (i : Int) + 1 = iI ((i + 1 : Nat) : Int) := by simp only [li_0, li_1, li_2, li_3, li_4, li_5, li_6, li_7, li_8, li_9, li_10, li_11, li_12, li_13, li_14, li_15, li_16, li_20, li_24, li_25, li_26, li_31, li_40, li_41, li_100, li_169, li_600, li_1000, li_10000, li_100000, lm_1, lm_2, lm_3, lm_4, lm_5, lm_6, lm_600, lm_10000, lm_12, iI_add, iI_sub, iI_mul, iI_neg]; rfl
        rw [e6]
        refine ih _ ⟨i + 1, by omega, rfl, fun r h => ?_, ?_⟩ ?_
        · dsimp only
          rw [h6 r h, hb5 r h]
        · dsimp only
          rw [hp]
          exact h3
        · dsimp only
          rw [tnN (by omega), tnN (by omega)]
          omega
  · have hin := inN (show n < 169 by omega) (by decide)
    refine ⟨hin, hin, hin, ih _ ⟨n + 1, by omega, rfl, fun r h1 h2 h3 => ?_, fun i hi => ?_⟩ ?_⟩
    · dsimp only
      rw [up2_ne h3, up2_ne h2, up2_ne h1, hr r h1 h2 h3]
    · dsimp only
      rw [up2_ne (by decide), up2_ne (by decide), up2_at, up2_ne (by decide), up2_at, up2_ne (by decide), up2_at, up2_ne (by decide), up2_ne (by decide)]
      by_cases h2 : i = n
      · rw [if_pos h2, if_pos h2, if_pos h2]
        exact ⟨rfl, rfl, rfl⟩
      · rw [if_neg h2, if_neg h2, if_neg h2]
        exact hz i (by omega)
    · dsimp only
      rw [tnN (by omega), tnN (by omega)]
      omega
theorem s_isCornerM {L : Int} {bs : List Bx} (hlen : bs.length ≤ 6) {w : Wd} (h12 : w 12 0 = iI (5 * bs.length + 1)) {x : Int} (hx : ir x) {Q : Int32 → Wd → Prop} (q1 : 0 ≤ x → x < 5 * bs.length + 1 → Q 1 w) (q0 : ¬ (0 ≤ x ∧ x < 5 * bs.length + 1) → Q 0 w) : k_X4_isCorner (iI x) w Q := by
  unfold k_X4_isCorner
  rw [h12]
  have e : iI (5 * (bs.length : Int) + 1) - 1 = iI (5 * bs.length) := by simp only [li_0, li_1, li_2, li_3, li_4, li_5, li_6, li_7, li_8, li_9, li_10, li_11, li_12, li_13, li_14, li_15, li_16, li_20, li_24, li_25, li_26, li_31, li_40, li_41, li_100, li_169, li_600, li_1000, li_10000, li_100000, lm_1, lm_2, lm_3, lm_4, lm_5, lm_6, lm_600, lm_10000, lm_12, iI_add, iI_sub, iI_mul, iI_neg]; congr 1; omega
  rw [e, li_0]
  refine s_in hx (by constructor <;> omega) (by constructor <;> omega) (fun h1 h2 => ⟨Or.inr rfl, q1 h1 (by omega)⟩) (fun h => ⟨Or.inl rfl, q0 (by omega)⟩)
theorem s_isFaceM {L : Int} {bs : List Bx} (hlen : bs.length ≤ 6) {w : Wd} (h7 : w 7 0 = iI (2 * bs.length + 2)) {x : Int} (hx : ir x) {Q : Int32 → Wd → Prop} (q1 : 0 ≤ x → x < 2 * bs.length + 2 → Q 1 w) (q0 : ¬ (0 ≤ x ∧ x < 2 * bs.length + 2) → Q 0 w) : k_X4_isFace (iI x) w Q := by
  unfold k_X4_isFace
  rw [h7]
  have e : iI (2 * (bs.length : Int) + 2) - 1 = iI (2 * bs.length + 1) := by simp only [li_0, li_1, li_2, li_3, li_4, li_5, li_6, li_7, li_8, li_9, li_10, li_11, li_12, li_13, li_14, li_15, li_16, li_20, li_24, li_25, li_26, li_31, li_40, li_41, li_100, li_169, li_600, li_1000, li_10000, li_100000, lm_1, lm_2, lm_3, lm_4, lm_5, lm_6, lm_600, lm_10000, lm_12, iI_add, iI_sub, iI_mul, iI_neg]; congr 1; omega
  rw [e, li_0]
  refine s_in hx (by constructor <;> omega) (by constructor <;> omega) (fun h1 h2 => ⟨Or.inr rfl, q1 h1 (by omega)⟩) (fun h => ⟨Or.inl rfl, q0 (by omega)⟩)
