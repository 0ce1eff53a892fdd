theorem dpos (a : Nat) (c : Bool) : decide (0 < a + (if c then 1 else 0)) = (decide (0 < a) || c) := by
  cases c <;> simp
theorem sp_succ (L : Int) (bs : List Bx) (m : Nat) (p q : Int) : decide (0 < spN L bs (m + 1) p q) = (decide (0 < spN L bs m p q) || spB L bs p q m) := dpos _ _
theorem sq_succ (L : Int) (bs : List Bx) (m : Nat) (p q : Int) : decide (0 < sqN L bs (m + 1) p q) = (decide (0 < sqN L bs m p q) || sqB L bs p q m) := dpos _ _
theorem on_succ (L : Int) (bs : List Bx) (m : Nat) (p q : Int) : decide (0 < onN L bs (m + 1) p q) = (decide (0 < onN L bs m p q) || onB L bs p q m) := dpos _ _
theorem s_draw53 {al ln st en ac : Nat} (hal : al < 2) (hac : ac < 2) (hln : ln < 13) (hse : st < en) (hen : en < 13) {w : Wd} {Q : Wd → Prop}
    (hq : ∀ w' : Wd, (∀ k, k ≠ 13 → k ≠ 14 → w' k = w k) → (∀ row : Nat, ∀ i : Nat, i < 32 → bt (w' 13 row) i = (bt (w 13 row) i || decide (row = ro al ln ∧ st ≤ i ∧ i < en))) → (∀ row : Nat, ∀ i : Nat, i < 32 → bt (w' 14 row) i = (bt (w 14 row) i || decide (row = ro al ln ∧ st ≤ i ∧ i ≤ en) || decide (i = ln ∧ ro ac 0 + st ≤ row ∧ row < ro ac 0 + (en + 1)))) → Q w') :
    k_X0_draw_53 Q (iI al) (iI ln) (iI st) (iI en) (iI ac) w := by
  unfold k_X0_draw_53
  have e1 : iI (en : Int) - 1 = iI ((en - 1 : Nat) : Int) := by
    simp only [li_0, li_1, li_2, li_3, li_4, li_5, li_6, li_7, li_8, li_9, li_10, li_11, li_12, li_13, li_14, li_15, li_16, li_20, li_24, li_25, li_26, li_31, li_40, li_41, li_100, li_169, li_600, li_1000, li_10000, li_100000, lm_1, lm_2, lm_3, lm_4, lm_5, lm_6, lm_600, lm_10000, lm_12, iI_add, iI_sub, iI_mul, iI_neg]
    congr 1
    omega
  rw [e1]
  refine s_bitsBetween (by omega) (by omega) (fun r1 h1 => ?_)
  refine s_addBits hal hln ?_
  refine s_bitsBetween (by omega) (by omega) (fun r2 h2 => ?_)
  refine s_addBits hal hln ?_
  refine s_draw93 hac hln (by omega) hen (fun w' hk hb => ?_)
  refine hq w' (fun k h3 h4 => ?_) (fun row i hi => ?_) (fun row i hi => ?_)
  · rw [hk k h4, upr_ne h4, upr_ne h3]
  · rw [hk 13 (by decide), upr_ne (by decide), upr_at, upd_at]
    by_cases hr : row = ro al ln
    · rw [if_pos hr, b_or, h1 i hi, hr]
      congr 1
      exact decide_eq_decide.mpr (by omega)
    · rw [if_neg hr, decide_eq_false (fun h => hr h.1), Bool.or_false]
  · rw [hb row i hi, upr_at, upr_ne (by decide), upd_at]
    congr 1
    by_cases hr : row = ro al ln
    · rw [if_pos hr, b_or, h2 i hi, hr]
      congr 1
      exact decide_eq_decide.mpr (by omega)
    · rw [if_neg hr, decide_eq_false (fun h => hr h.1), Bool.or_false]
theorem nat_of {z : Int} (h : 0 ≤ z) : ∃ n : Nat, z = n := ⟨z.toNat, by omega⟩
theorem s_draw {L : Int} {bs : List Bx} {m : Nat} {w : Wd} {Q : Wd → Prop} (hL : 1 ≤ L ∧ L ≤ 12) (hv : Val L bs) (hm : m < 14) (hf : FR1 L bs w m) (hb : BR L bs w m)
    (hq : ∀ w' : Wd, (∀ k, k ≠ 13 → k ≠ 14 → w' k = w k) → BR L bs w' (m + 1) → Q w') : k_X0_draw (iI m) w Q := by
  obtain ⟨f1, f2, f3, f4⟩ := hf
  obtain ⟨t1, t2, t3, t4⟩ := ftri hL.1 hv m
  have tw := fw_01 bs m
  obtain ⟨p, hp⟩ := nat_of t1
  obtain ⟨q, hq'⟩ := nat_of t2
  obtain ⟨l, hl⟩ := nat_of (show 0 ≤ fl L bs m by omega)
  rw [hp] at t1 t4
  rw [hq'] at t2 t4
  rw [hl] at t3 t4
  unfold k_X0_draw
  have tn : (iI (m : Int)).toNatClampNeg = m := by rw [iI_tn (by omega) (by omega)]; omega
  rw [tn, f1, f2, f3, f4]
  unfold fline fsta
  refine ⟨fun h => absurd h (by simp (disch := first | omega | (constructor <;> omega)) only [li_0, li_1, li_2, li_3, li_4, li_5, li_6, li_7, li_8, li_9, li_10, li_11, li_12, li_13, li_14, li_15, li_16, li_20, li_24, li_25, li_26, li_31, li_40, li_41, li_100, li_169, li_600, li_1000, li_10000, li_100000, lm_1, lm_2, lm_3, lm_4, lm_5, lm_6, lm_600, lm_10000, lm_12, iI_add, iI_sub, iI_mul, iI_neg, iI_lt, iI_le, iI_eq, iI_in, iI_tn]; omega), fun _ => ⟨fun _ => ?_, fun h => absurd ?_ h⟩⟩
  · have hin : vp_in (iI (m : Int)) 14 := (iI_in (by constructor <;> omega)).mpr ⟨by omega, by omega⟩
    refine ⟨hin, hin, hin, hin, ?_⟩
    rcases tw with tw | tw
    · simp only [tw, if_true, hp, hq', hl]
      refine ⟨fun h => absurd rfl h, fun _ => ?_⟩
      have e : iI (p : Int) + iI (l : Int) = iI ((p + l : Nat) : Int) := by rw [iI_add]; rfl
      rw [e]
      refine s_draw53 (al := 0) (ac := 1) (by decide) (by decide) (by omega) (by omega) (by omega) (fun w' hk h13 h14 => hq w' hk (fun r hr i hi => ?_))
      obtain ⟨b1, b2, b3, b4⟩ := hb r hr i hi
      rw [sp_succ, sq_succ, on_succ, on_succ, h13 r i hi, h13 (13 + r) i hi, h14 r i hi, h14 (13 + r) i hi, b1, b2, b3, b4]
      simp only [spB, sqB, onB, tw, hp, hq', hl, ro, if_true, true_and, false_and, or_false, false_or, if_neg (by decide : ¬ (1 : Nat) = 0)]
      refine ⟨?_, ?_, ?_, ?_⟩
      · congr 1; exact decide_eq_decide.mpr (by omega)
      · congr 1; exact decide_eq_decide.mpr (by omega)
      · rw [Bool.or_assoc, ← Bool.decide_or]; congr 1; exact decide_eq_decide.mpr (by omega)
      · rw [Bool.or_assoc, ← Bool.decide_or]; congr 1; exact decide_eq_decide.mpr (by omega)
    · have n10 : ¬ (1 : Int) = 0 := by decide
      simp only [tw, if_neg n10, hp, hq', hl]
      refine ⟨fun _ => ?_, fun h => absurd h (by decide)⟩
      have e : iI (q : Int) + iI (l : Int) = iI ((q + l : Nat) : Int) := by rw [iI_add]; rfl
      rw [e]
      refine s_draw53 (al := 1) (ac := 0) (by decide) (by decide) (by omega) (by omega) (by omega) (fun w' hk h13 h14 => hq w' hk (fun r hr i hi => ?_))
      obtain ⟨b1, b2, b3, b4⟩ := hb r hr i hi
      rw [sp_succ, sq_succ, on_succ, on_succ, h13 r i hi, h13 (13 + r) i hi, h14 r i hi, h14 (13 + r) i hi, b1, b2, b3, b4]
      simp only [spB, sqB, onB, tw, hp, hq', hl, ro, if_true, true_and, false_and, or_false, false_or, if_neg (by decide : ¬ (1 : Nat) = 0)]
      refine ⟨?_, ?_, ?_, ?_⟩
      · congr 1; exact decide_eq_decide.mpr (by omega)
      · congr 1; exact decide_eq_decide.mpr (by omega)
      · rw [Bool.or_assoc, ← Bool.decide_or]; congr 1; exact decide_eq_decide.mpr (by omega)
      · rw [Bool.or_assoc, ← Bool.decide_or]; congr 1; exact decide_eq_decide.mpr (by omega)
  · simp (disch := first | omega | (constructor <;> omega)) only [li_0, li_1, li_2, li_3, li_4, li_5, li_6, li_7, li_8, li_9, li_10, li_11, li_12, li_13, li_14, li_15, li_16, li_20, li_24, li_25, li_26, li_31, li_40, li_41, li_100, li_169, li_600, li_1000, li_10000, li_100000, lm_1, lm_2, lm_3, lm_4, lm_5, lm_6, lm_600, lm_10000, lm_12, iI_add, iI_sub, iI_mul, iI_neg, iI_lt, iI_le, iI_eq, iI_in, iI_tn]; omega
theorem s_fill {f : Nat → Int32} {Q : (Nat → Int32) → Prop} (hq : ∀ f' : Nat → Int32, (∀ j, j < 26 → f' j = 0) → Q f') : k_J7_fill_53178 0 f Q := by
  unfold k_J7_fill_53178
  refine lpf_run (fun u => ∃ n : Nat, n ≤ 26 ∧ u.1 = 0 ∧ u.2.1 = iI n ∧ u.2.2.1 = 26 ∧ ∀ j, j < n → u.2.2.2 j = 0) (fun u => 26 - u.2.1.toNatClampNeg) _ ⟨0, by omega, rfl, rfl, rfl, fun j h => absurd h (by omega)⟩ ?_
  rintro K ⟨a1, a2, a3, g⟩ ⟨n, hn, e1, e2, e3, hg⟩ ih
  dsimp only at e1 e2 e3 hg ih ⊢
  subst e1; subst e2; subst e3
  unfold k_J7_fill_53178_5
  have e5 : iI (n : Int) + 1 = iI ((n + 1 : Nat) : Int) := by simp only [li_0, li_1, li_2, li_3, li_4, li_5, li_6, li_7, li_8, li_9, li_10, li_11, li_12, li_13, li_14, li_15, li_16, li_20, li_24, li_25, li_26, li_31, li_40, li_41, li_100, li_169, li_600, li_1000, li_10000, li_100000, lm_1, lm_2, lm_3, lm_4, lm_5, lm_6, lm_600, lm_10000, lm_12, iI_add, iI_sub, iI_mul, iI_neg]; rfl
  have tn : (iI (n : Int)).toNatClampNeg = n := by rw [iI_tn (by omega) (by omega)]; omega
  rw [e5, tn]
  refine ⟨fun h => hq g (fun j hj => hg j ?_), fun h => ?_⟩
  · have : (26 : Int) ≤ n := (iI_le (a := 26) (b := n) (by constructor <;> omega) (by constructor <;> omega)).mp h
    omega
  · have : ¬ (26 : Int) ≤ n := mt (iI_le (a := 26) (b := n) (by constructor <;> omega) (by constructor <;> omega)).mpr h
    refine ⟨(iI_in (by constructor <;> omega)).mpr ⟨by omega, by omega⟩, ih _ ⟨n + 1, by omega, rfl, rfl, rfl, fun j hj => ?_⟩ ?_⟩
    · dsimp only
      rw [upd_at]
      by_cases h : j = n
      · rw [if_pos h]
      · rw [if_neg h]; exact hg j (by omega)
    · dsimp only
      rw [tn, iI_tn (by omega) (by omega)]
      omega
theorem BR_0 {L : Int} {bs : List Bx} {w : Wd} (h13 : ∀ j, j < 26 → w 13 j = 0) (h14 : ∀ j, j < 26 → w 14 j = 0) : BR L bs w 0 := by
  intro r hr i hi
  rw [h13 r (by omega), h13 (13 + r) (by omega), h14 r (by omega), h14 (13 + r) (by omega), b_0]
  exact ⟨rfl, rfl, rfl, rfl⟩
/-- redraw: all faces anew -/
theorem s_redraw {L : Int} {bs : List Bx} {w : Wd} {Q : Wd → Prop} (hL : 1 ≤ L ∧ L ≤ 12) (hv : Val L bs) (h1 : w 1 0 = iI bs.length) (hf : FR L bs w (2 * bs.length + 2))
    (hq : ∀ w' : Wd, (∀ k, k ≠ 13 → k ≠ 14 → w' k = w k) → BR L bs w' (2 * bs.length + 2) → Q w') : k_X0_redraw w Q := by
  have hlen := Val_len hv
  unfold k_X0_redraw
  refine s_fill (fun f1 g1 => ?_)
  rw [upr_ne (by decide)]
  refine s_fill (fun f2 g2 => ?_)
  refine lpf_run (fun u => ∃ m : Nat, m ≤ 2 * bs.length + 2 ∧ u.1 = iI m ∧ (∀ k, k ≠ 13 → k ≠ 14 → u.2 k = w k) ∧ BR L bs u.2 m) (fun u => 2 * bs.length + 2 - u.1.toNatClampNeg) _ ⟨0, by omega, rfl, fun k h3 h4 => ?_, BR_0 (fun j hj => ?_) (fun j hj => ?_)⟩ ?_
  · dsimp only; rw [upr_ne h4, upr_ne h3]
  · dsimp only; rw [upr_ne (by decide), upr_at, g1 j hj]
  · dsimp only; rw [upr_at, g2 j hj]
  rintro K ⟨a1, w1⟩ ⟨m, hm, e1, hk, hb⟩ ih
  dsimp only at e1 hk hb ih ⊢
  subst e1
  unfold k_X0_redraw_18 k_X0_faces
  rw [hk 1 (by decide) (by decide), h1]
  have tn : (iI (m : Int)).toNatClampNeg = m := by rw [iI_tn (by omega) (by omega)]; omega
  have e5 : iI (m : Int) + 1 = iI ((m + 1 : Nat) : Int) := by simp only [li_0, li_1, li_2, li_3, li_4, li_5, li_6, li_7, li_8, li_9, li_10, li_11, li_12, li_13, li_14, li_15, li_16, li_20, li_24, li_25, li_26, li_31, li_40, li_41, li_100, li_169, li_600, li_1000, li_10000, li_100000, lm_1, lm_2, lm_3, lm_4, lm_5, lm_6, lm_600, lm_10000, lm_12, iI_add, iI_sub, iI_mul, iI_neg]; rfl
  refine ⟨fun h => ?_, fun h => ?_⟩
  · have : 2 + 2 * (bs.length : Int) ≤ m := by
      revert h; simp (disch := first | omega | (constructor <;> omega)) only [li_0, li_1, li_2, li_3, li_4, li_5, li_6, li_7, li_8, li_9, li_10, li_11, li_12, li_13, li_14, li_15, li_16, li_20, li_24, li_25, li_26, li_31, li_40, li_41, li_100, li_169, li_600, li_1000, li_10000, li_100000, lm_1, lm_2, lm_3, lm_4, lm_5, lm_6, lm_600, lm_10000, lm_12, iI_add, iI_sub, iI_mul, iI_neg, iI_lt, iI_le, iI_eq, iI_in, iI_tn]; exact id
    refine hq w1 hk ?_
    rw [show 2 * bs.length + 2 = m by omega]
    exact hb
  · have : ¬ 2 + 2 * (bs.length : Int) ≤ m := by
      revert h; simp (disch := first | omega | (constructor <;> omega)) only [li_0, li_1, li_2, li_3, li_4, li_5, li_6, li_7, li_8, li_9, li_10, li_11, li_12, li_13, li_14, li_15, li_16, li_20, li_24, li_25, li_26, li_31, li_40, li_41, li_100, li_169, li_600, li_1000, li_10000, li_100000, lm_1, lm_2, lm_3, lm_4, lm_5, lm_6, lm_600, lm_10000, lm_12, iI_add, iI_sub, iI_mul, iI_neg, iI_lt, iI_le, iI_eq, iI_in, iI_tn]; exact id
    refine s_draw hL hv (by omega) ?_ hb (fun w' hk' hb' => ?_)
    · have := hf m (by omega)
      unfold FR1 at this ⊢
      rw [hk 5 (by decide) (by decide), hk 6 (by decide) (by decide), hk 7 (by decide) (by decide), hk 8 (by decide) (by decide)]
      exact this
    · rw [e5]
      refine ih _ ⟨m + 1, by omega, rfl, fun k h3 h4 => ?_, hb'⟩ ?_
      · dsimp only; rw [hk' k h3 h4, hk k h3 h4]
      · dsimp only
        rw [tn, iI_tn (by omega) (by omega)]
        omega
