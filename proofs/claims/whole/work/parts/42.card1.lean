/-! the program's card: what its rows hold, and what its methods do, by numbers -/
theorem upr_self (w : Wd) (k : Nat) : upr w k (w k) = w := by
  funext a
  unfold upr
  by_cases h : a = k
  · rw [if_pos h, h]
  · rw [if_neg h]
theorem up2_ne {w : Wd} {k i a : Nat} {v : Int32} (h : a ≠ k) : up2 w k i v a = w a := by unfold up2; rw [if_neg h]
theorem up2_at {w : Wd} {k i j : Nat} {v : Int32} : up2 w k i v k j = if j = i then v else w k j := by unfold up2; rw [if_pos rfl]; rfl
theorem upr_ne {w : Wd} {k a : Nat} {f : Nat → Int32} (h : a ≠ k) : upr w k f a = w a := by unfold upr; rw [if_neg h]
theorem upr_at {w : Wd} {k : Nat} {f : Nat → Int32} : upr w k f k = f := by unfold upr; rw [if_pos rfl]
theorem upd_at {f : Nat → Int32} {k j : Nat} {x : Int32} : upd f k x j = if j = k then x else f j := rfl
def fline (bs : List Bx) (j : Nat) : Int := if fw bs j = 0 then fq bs j else fp bs j
def fsta (bs : List Bx) (j : Nat) : Int := if fw bs j = 0 then fp bs j else fq bs j
def FR1 (L : Int) (bs : List Bx) (w : Wd) (j : Nat) : Prop := w 5 j = iI (fw bs j) ∧ w 6 j = iI (fline bs j) ∧ w 7 j = iI (fsta bs j) ∧ w 8 j = iI (fl L bs j)
def FR (L : Int) (bs : List Bx) (w : Wd) (m : Nat) : Prop := ∀ j, j < m → FR1 L bs w j
def KR1 (bs : List Bx) (w : Wd) (j : Nat) : Prop := w 9 j = iI (cp bs j) ∧ w 10 j = iI (cq bs j) ∧ w 11 j = iI (cu bs j) ∧ w 12 j = iI (cv bs j)
def KR (bs : List Bx) (w : Wd) (m : Nat) : Prop := ∀ j, j < m → KR1 bs w j
def XR (bs : List Bx) (w : Wd) (m : Nat) : Prop := ∀ i, i < m → w 2 i = iI (bx bs i).1 ∧ w 3 i = iI (bx bs i).2.1 ∧ w 4 i = iI (bx bs i).2.2
def BR (L : Int) (bs : List Bx) (w : Wd) (m : Nat) : Prop := ∀ r : Nat, r < 13 → ∀ i : Nat, i < 32 → bt (w 13 r) i = decide (0 < spN L bs m i r) ∧ bt (w 13 (13 + r)) i = decide (0 < sqN L bs m r i) ∧ bt (w 14 r) i = decide (0 < onN L bs m i r) ∧ bt (w 14 (13 + r)) i = decide (0 < onN L bs m r i)
def CR (L : Int) (bs : List Bx) (w : Wd) : Prop := w 0 0 = iI L ∧ w 1 0 = iI bs.length ∧ XR bs w bs.length ∧ FR L bs w (2 * bs.length + 2) ∧ KR bs w (5 * bs.length + 1) ∧ BR L bs w (2 * bs.length + 2)
theorem s_isWithin {x l h : Int} (hx : ir x) (hl : ir l) (hh : ir h) {Q : Int32 → Prop} (h1 : l ≤ x → x ≤ h → Q 1) (h0 : ¬ (l ≤ x ∧ x ≤ h) → Q 0) : k_X3_isWithin (iI x) (iI l) (iI h) Q := by
  unfold k_X3_isWithin
  rw [iI_lt hx hl, iI_lt hh hx]
  exact ⟨fun a => h0 (by omega), fun a => ⟨fun b => h0 (by omega), fun b => h1 (by omega) (by omega)⟩⟩
theorem bb_all : ∀ h : Fin 14, ∀ l : Fin 14, l.val ≤ h.val → ∀ i : Fin 32, bt (((1 : Int32) <<< ((nI h.val + 1) &&& 31)) - (1 <<< (nI l.val &&& 31))) i.val = decide (l.val ≤ i.val ∧ i.val ≤ h.val) := by decide +kernel
theorem s_bitsBetween {l h : Nat} (hlh : l ≤ h) (hh : h < 14) {Q : Int32 → Prop} (hq : ∀ r : Int32, (∀ i : Nat, i < 32 → bt r i = decide (l ≤ i ∧ i ≤ h)) → Q r) : k_X0_bitsBetween (iI l) (iI h) Q := by
  unfold k_X0_bitsBetween
  refine hq _ (fun i hi => ?_)
  have := bb_all ⟨h, hh⟩ ⟨l, by omega⟩ hlh ⟨i, hi⟩
  rw [← iI_nI, ← iI_nI]
  exact this
def ro (al r : Nat) : Nat := if al = 0 then r else 13 + r
theorem s_addBits {al r : Nat} (hal : al < 2) (hr : r < 13) {b : Int32} {f : Nat → Int32} {Q : (Nat → Int32) → Prop} (hq : Q (upd f (ro al r) (f (ro al r) ||| b))) : k_X0_addBits (iI al) (iI r) b f Q := by
  unfold k_X0_addBits
  rcases (show al = 0 ∨ al = 1 by omega) with rfl | rfl
  · simp only [ro, if_true] at hq
    refine ⟨fun h => absurd h ?_, fun _ => ⟨fun _ => ⟨fun h => absurd ?_ h, fun _ => ?_⟩, fun h => absurd ?_ h⟩⟩
    · simp (disch := first | omega | (constructor <;> omega)) only [li_0, li_1, li_2, li_3, li_4, li_5, li_6, li_7, li_8, li_9, li_10, li_11, li_12, li_13, li_14, li_15, li_16, li_20, li_24, li_25, li_26, li_31, li_40, li_41, li_100, li_169, li_600, li_1000, li_10000, li_100000, lm_1, lm_2, lm_3, lm_4, lm_5, lm_6, lm_600, lm_10000, lm_12, iI_add, iI_sub, iI_mul, iI_neg, iI_lt, iI_le, iI_eq, iI_in, iI_tn]; omega
    · rfl
    · unfold k_X0_addBits_23
      simp (disch := first | omega | (constructor <;> omega)) only [li_0, li_1, li_2, li_3, li_4, li_5, li_6, li_7, li_8, li_9, li_10, li_11, li_12, li_13, li_14, li_15, li_16, li_20, li_24, li_25, li_26, li_31, li_40, li_41, li_100, li_169, li_600, li_1000, li_10000, li_100000, lm_1, lm_2, lm_3, lm_4, lm_5, lm_6, lm_600, lm_10000, lm_12, iI_add, iI_sub, iI_mul, iI_neg, iI_lt, iI_le, iI_eq, iI_in, iI_tn]
      simp only [Int.toNat_natCast]
      refine ⟨fun h => absurd h (by omega), fun _ => ⟨⟨by omega, by omega⟩, ⟨by omega, by omega⟩, hq⟩⟩
    · simp (disch := first | omega | (constructor <;> omega)) only [li_0, li_1, li_2, li_3, li_4, li_5, li_6, li_7, li_8, li_9, li_10, li_11, li_12, li_13, li_14, li_15, li_16, li_20, li_24, li_25, li_26, li_31, li_40, li_41, li_100, li_169, li_600, li_1000, li_10000, li_100000, lm_1, lm_2, lm_3, lm_4, lm_5, lm_6, lm_600, lm_10000, lm_12, iI_add, iI_sub, iI_mul, iI_neg, iI_lt, iI_le, iI_eq, iI_in, iI_tn]; omega
  · simp only [ro, if_neg (by decide : ¬ (1 : Nat) = 0)] at hq
    refine ⟨fun h => absurd h ?_, fun _ => ⟨fun _ => ⟨fun _ => ?_, fun h => absurd h ?_⟩, fun h => absurd ?_ h⟩⟩
    · simp (disch := first | omega | (constructor <;> omega)) only [li_0, li_1, li_2, li_3, li_4, li_5, li_6, li_7, li_8, li_9, li_10, li_11, li_12, li_13, li_14, li_15, li_16, li_20, li_24, li_25, li_26, li_31, li_40, li_41, li_100, li_169, li_600, li_1000, li_10000, li_100000, lm_1, lm_2, lm_3, lm_4, lm_5, lm_6, lm_600, lm_10000, lm_12, iI_add, iI_sub, iI_mul, iI_neg, iI_lt, iI_le, iI_eq, iI_in, iI_tn]; omega
    · unfold k_X0_addBits_23
      simp (disch := first | omega | (constructor <;> omega)) only [li_0, li_1, li_2, li_3, li_4, li_5, li_6, li_7, li_8, li_9, li_10, li_11, li_12, li_13, li_14, li_15, li_16, li_20, li_24, li_25, li_26, li_31, li_40, li_41, li_100, li_169, li_600, li_1000, li_10000, li_100000, lm_1, lm_2, lm_3, lm_4, lm_5, lm_6, lm_600, lm_10000, lm_12, iI_add, iI_sub, iI_mul, iI_neg, iI_lt, iI_le, iI_eq, iI_in, iI_tn]
      have e : (13 + (r : Int)).toNat = 13 + r := by omega
      simp only [e]
      refine ⟨fun h => absurd h (by omega), fun _ => ⟨⟨by omega, by omega⟩, ⟨by omega, by omega⟩, hq⟩⟩
    · decide
    · simp (disch := first | omega | (constructor <;> omega)) only [li_0, li_1, li_2, li_3, li_4, li_5, li_6, li_7, li_8, li_9, li_10, li_11, li_12, li_13, li_14, li_15, li_16, li_20, li_24, li_25, li_26, li_31, li_40, li_41, li_100, li_169, li_600, li_1000, li_10000, li_100000, lm_1, lm_2, lm_3, lm_4, lm_5, lm_6, lm_600, lm_10000, lm_12, iI_add, iI_sub, iI_mul, iI_neg, iI_lt, iI_le, iI_eq, iI_in, iI_tn]; omega
theorem s_bitsOf {al r : Nat} (hal : al < 2) (hr : r < 13) {f : Nat → Int32} {Q : Int32 → (Nat → Int32) → Prop} (hq : Q (f (ro al r)) f) : k_X0_bitsOf (iI al) (iI r) f Q := by
  unfold k_X0_bitsOf
  rcases (show al = 0 ∨ al = 1 by omega) with rfl | rfl
  · simp only [ro, if_true] at hq
    refine ⟨fun h => absurd h ?_, fun _ => ⟨fun _ => ⟨fun h => absurd ?_ h, fun _ => ?_⟩, fun h => absurd ?_ h⟩⟩
    · simp (disch := first | omega | (constructor <;> omega)) only [li_0, li_1, li_2, li_3, li_4, li_5, li_6, li_7, li_8, li_9, li_10, li_11, li_12, li_13, li_14, li_15, li_16, li_20, li_24, li_25, li_26, li_31, li_40, li_41, li_100, li_169, li_600, li_1000, li_10000, li_100000, lm_1, lm_2, lm_3, lm_4, lm_5, lm_6, lm_600, lm_10000, lm_12, iI_add, iI_sub, iI_mul, iI_neg, iI_lt, iI_le, iI_eq, iI_in, iI_tn]; omega
    · rfl
    · unfold k_X0_bitsOf_24
      simp (disch := first | omega | (constructor <;> omega)) only [li_0, li_1, li_2, li_3, li_4, li_5, li_6, li_7, li_8, li_9, li_10, li_11, li_12, li_13, li_14, li_15, li_16, li_20, li_24, li_25, li_26, li_31, li_40, li_41, li_100, li_169, li_600, li_1000, li_10000, li_100000, lm_1, lm_2, lm_3, lm_4, lm_5, lm_6, lm_600, lm_10000, lm_12, iI_add, iI_sub, iI_mul, iI_neg, iI_lt, iI_le, iI_eq, iI_in, iI_tn]
      simp only [Int.toNat_natCast]
      refine ⟨fun h => absurd h (by omega), fun _ => ⟨⟨by omega, by omega⟩, hq⟩⟩
    · simp (disch := first | omega | (constructor <;> omega)) only [li_0, li_1, li_2, li_3, li_4, li_5, li_6, li_7, li_8, li_9, li_10, li_11, li_12, li_13, li_14, li_15, li_16, li_20, li_24, li_25, li_26, li_31, li_40, li_41, li_100, li_169, li_600, li_1000, li_10000, li_100000, lm_1, lm_2, lm_3, lm_4, lm_5, lm_6, lm_600, lm_10000, lm_12, iI_add, iI_sub, iI_mul, iI_neg, iI_lt, iI_le, iI_eq, iI_in, iI_tn]; omega
  · simp only [ro, if_neg (by decide : ¬ (1 : Nat) = 0)] at hq
    refine ⟨fun h => absurd h ?_, fun _ => ⟨fun _ => ⟨fun _ => ?_, fun h => absurd h ?_⟩, fun h => absurd ?_ h⟩⟩
    · simp (disch := first | omega | (constructor <;> omega)) only [li_0, li_1, li_2, li_3, li_4, li_5, li_6, li_7, li_8, li_9, li_10, li_11, li_12, li_13, li_14, li_15, li_16, li_20, li_24, li_25, li_26, li_31, li_40, li_41, li_100, li_169, li_600, li_1000, li_10000, li_100000, lm_1, lm_2, lm_3, lm_4, lm_5, lm_6, lm_600, lm_10000, lm_12, iI_add, iI_sub, iI_mul, iI_neg, iI_lt, iI_le, iI_eq, iI_in, iI_tn]; omega
    · unfold k_X0_bitsOf_24
      simp (disch := first | omega | (constructor <;> omega)) only [li_0, li_1, li_2, li_3, li_4, li_5, li_6, li_7, li_8, li_9, li_10, li_11, li_12, li_13, li_14, li_15, li_16, li_20, li_24, li_25, li_26, li_31, li_40, li_41, li_100, li_169, li_600, li_1000, li_10000, li_100000, lm_1, lm_2, lm_3, lm_4, lm_5, lm_6, lm_600, lm_10000, lm_12, iI_add, iI_sub, iI_mul, iI_neg, iI_lt, iI_le, iI_eq, iI_in, iI_tn]
      have e : (13 + (r : Int)).toNat = 13 + r := by omega
      simp only [e]
      refine ⟨fun h => absurd h (by omega), fun _ => ⟨⟨by omega, by omega⟩, hq⟩⟩
    · decide
    · simp (disch := first | omega | (constructor <;> omega)) only [li_0, li_1, li_2, li_3, li_4, li_5, li_6, li_7, li_8, li_9, li_10, li_11, li_12, li_13, li_14, li_15, li_16, li_20, li_24, li_25, li_26, li_31, li_40, li_41, li_100, li_169, li_600, li_1000, li_10000, li_100000, lm_1, lm_2, lm_3, lm_4, lm_5, lm_6, lm_600, lm_10000, lm_12, iI_add, iI_sub, iI_mul, iI_neg, iI_lt, iI_le, iI_eq, iI_in, iI_tn]; omega
theorem ro_add (ac n : Nat) : ro ac n = ro ac 0 + n := by unfold ro; split <;> omega
/-- the loop that marks the places across -/
theorem s_draw93 {ln st en ac : Nat} (hac : ac < 2) (hln : ln < 13) (hse : st ≤ en + 1) (hen : en < 13) {w : Wd} {Q : Wd → Prop}
    (hq : ∀ w' : Wd, (∀ k, k ≠ 14 → w' k = w k) → (∀ row : Nat, ∀ i : Nat, i < 32 → bt (w' 14 row) i = (bt (w 14 row) i || decide (i = ln ∧ ro ac 0 + st ≤ row ∧ row < ro ac 0 + (en + 1)))) → Q w') :
    ∃ n : Nat, lpf (fun (K : (Int32 × Int32 × Int32 × Int32 × Wd) → Prop) (u : Int32 × Int32 × Int32 × Int32 × Wd) => k_X0_draw_93 K Q u.1 u.2.1 u.2.2.1 u.2.2.2.1 u.2.2.2.2) n (iI ln, iI en, iI ac, iI st, w) := by
  refine lpf_run (fun u => ∃ n : Nat, st ≤ n ∧ n ≤ en + 1 ∧ u.1 = iI ln ∧ u.2.1 = iI en ∧ u.2.2.1 = iI ac ∧ u.2.2.2.1 = iI n ∧ (∀ k, k ≠ 14 → u.2.2.2.2 k = w k) ∧ (∀ row : Nat, ∀ i : Nat, i < 32 → bt (u.2.2.2.2 14 row) i = (bt (w 14 row) i || decide (i = ln ∧ ro ac 0 + st ≤ row ∧ row < ro ac 0 + n)))) (fun u => en + 1 - u.2.2.2.1.toNatClampNeg) _ ⟨st, Nat.le_refl _, hse, rfl, rfl, rfl, rfl, fun _ _ => rfl, fun row i hi => ?_⟩ ?_
  · rw [decide_eq_false (by omega), Bool.or_false]
  · rintro K ⟨a1, a2, a3, a4, w1⟩ ⟨n, hn1, hn2, e1, e2, e3, e4, hk, hb⟩ ih
    dsimp only at e1 e2 e3 e4 hk hb ih ⊢
    subst e1; subst e2; subst e3; subst e4
    unfold k_X0_draw_93
    refine ⟨fun h => ?_, fun h => ?_⟩
    · replace h : en < n := by
        have := (iI_lt (a := en) (b := n) (by constructor <;> omega) (by constructor <;> omega)).mp h
        omega
      refine hq w1 hk (fun row i hi => ?_)
      rw [hb row i hi, show n = en + 1 by omega]
    · replace h : n ≤ en := by
        have := mt (iI_lt (a := en) (b := n) (by constructor <;> omega) (by constructor <;> omega)).mpr h
        omega
      refine s_bitsBetween (Nat.le_refl ln) (by omega) (fun r hr => ?_)
      refine s_addBits hac (show n < 13 by omega) ?_
      have e5 : iI (n : Int) + 1 = iI ((n + 1 : Nat) : Int) := by simp only [li_0, li_1, li_2, li_3, li_4, li_5, li_6, li_7, li_8, li_9, li_10, li_11, li_12, li_13, li_14, li_15, li_16, li_20, li_24, li_25, li_26, li_31, li_40, li_41, li_100, li_169, li_600, li_1000, li_10000, li_100000, lm_1, lm_2, lm_3, lm_4, lm_5, lm_6, lm_600, lm_10000, lm_12, iI_add, iI_sub, iI_mul, iI_neg]; rfl
      rw [e5]
      refine ih _ ⟨n + 1, by omega, by omega, rfl, rfl, rfl, rfl, fun k hk' => ?_, fun row i hi => ?_⟩ ?_
      · dsimp only; rw [upr_ne hk', hk k hk']
      · dsimp only
        rw [upr_at, upd_at, ro_add ac n]
        by_cases hr2 : row = ro ac 0 + n
        · rw [if_pos hr2, b_or, hr i hi, ← hr2, hb row i hi, decide_eq_false (show ¬ (i = ln ∧ ro ac 0 + st ≤ row ∧ row < ro ac 0 + n) by omega), Bool.or_false]
          congr 1
          exact decide_eq_decide.mpr (by omega)
        · rw [if_neg hr2, hb row i hi]
          congr 1
          exact decide_eq_decide.mpr (by omega)
      · dsimp only
        rw [iI_tn (by omega) (by omega), iI_tn (by omega) (by omega)]
        omega
