/-! the model: what its rows hold when it is laid, and its methods, by numbers -/
def MF1 (L : Int) (bs : List Bx) (w : Wd) (j : Nat) : Prop := w 3 j = iI (fw bs j) ∧ w 4 j = iI (fp bs j) ∧ w 5 j = iI (fq bs j) ∧ w 6 j = iI (fl L bs j)
def MK1 (bs : List Bx) (w : Wd) (j : Nat) : Prop := w 8 j = iI (cp bs j) ∧ w 9 j = iI (cq bs j) ∧ w 10 j = iI (cu bs j) ∧ w 11 j = iI (cv bs j)
def GR (L : Int) (bs : List Bx) (w : Wd) (m : Nat) : Prop := ∀ p : Nat, p < 13 → ∀ q : Nat, q < 13 → w 13 (13 * q + p) = iI (spN L bs m p q) ∧ w 14 (13 * q + p) = iI (sqN L bs m p q) ∧ w 15 (13 * q + p) = iI (onN L bs m p q)
def MRow (f : Nat → Int32) (L : Int) (bs : List Bx) : Prop := f 0 = iI L ∧ f 1 = iI bs.length ∧ ∀ i, i < bs.length → f (2 + 3 * i) = iI (bx bs i).1 ∧ f (3 + 3 * i) = iI (bx bs i).2.1 ∧ f (4 + 3 * i) = iI (bx bs i).2.2
def ML (L : Int) (bs : List Bx) (w : Wd) : Prop := w 7 0 = iI (2 * bs.length + 2) ∧ w 12 0 = iI (5 * bs.length + 1) ∧ (∀ j, j < 2 * bs.length + 2 → MF1 L bs w j) ∧ (∀ j, j < 5 * bs.length + 1 → MK1 bs w j) ∧ GR L bs w (2 * bs.length + 2)
theorem tnN {n : Nat} (h : n < 2147483648) : (iI (n : Int)).toNatClampNeg = n := by rw [iI_tn (by omega) (by omega)]; omega
theorem inN {n N : Nat} (h : n < N) (hN : N < 2147483648) : vp_in (iI (n : Int)) N := (iI_in (by constructor <;> omega)).mpr ⟨by omega, by omega⟩
theorem s_in {x l h : Int} (hx : ir x) (hl : ir l) (hh : ir h) {Q : Int32 → Prop} (h1 : l ≤ x → x ≤ h → Q 1) (h0 : ¬ (l ≤ x ∧ x ≤ h) → Q 0) : k_X4_in (iI x) (iI l) (iI h) Q := by
  unfold k_X4_in
  rw [iI_lt hx hl, iI_lt hh hx]
  exact ⟨fun a => h0 (by omega), fun a => ⟨fun b => h0 (by omega), fun b => h1 (by omega) (by omega)⟩⟩
theorem s_at {p q : Int} {Q : Int32 → Prop} (hq : Q (iI (13 * q + p))) : k_X4_at (iI p) (iI q) Q := by
  unfold k_X4_at
  rw [li_13, iI_mul, iI_add]
  exact hq
theorem s_mark58 {K : (Int32 × Int32 × Int32 × Wd) → Prop} {Q : Wd → Prop} {j k ix : Nat} {by' wy ln : Int} {w : Wd} (hj : j < 18) (hix : ix < 169) (hk : k < 100) (hwy : wy = 0 ∨ wy = 1) (hln : 0 ≤ ln ∧ ln < 100) (h3 : w 3 j = iI wy) (h6 : w 6 j = iI ln)
    (hq : ∀ w' : Wd, (∀ r, r ≠ 13 → r ≠ 14 → r ≠ 15 → w' r = w r) → (∀ i, w' 15 i = if i = ix then w 15 i + iI by' else w 15 i) → (∀ i, w' 13 i = if i = ix ∧ (k : Int) < ln ∧ wy = 0 then w 13 i + iI by' else w 13 i) → (∀ i, w' 14 i = if i = ix ∧ (k : Int) < ln ∧ wy = 1 then w 14 i + iI by' else w 14 i) → K (iI j, iI by', iI k + 1, w')) :
    k_X4_mark_58 K Q (iI j) (iI by') (iI k) (iI ix) w := by
  unfold k_X4_mark_58
  have hin := inN hix (by decide)
  have hij := inN hj (by decide)
  have e0 : ∀ x : Int32, x + 0 = x := fun x => Int32.add_zero x
  rw [tnN (show j < 2147483648 by omega), tnN (show ix < 2147483648 by omega), up2_ne (by decide), up2_ne (by decide), up2_ne (by decide), h3, h6, iI_le (by constructor <;> omega) (by constructor <;> omega)]
  refine ⟨hin, hin, hij, fun h => ?_, fun h => ⟨hin, hij, ?_⟩⟩
  · unfold k_X4_mark_130
    refine hq _ (fun r h1 h2 h3 => up2_ne h3) (fun i => ?_) (fun i => ?_) (fun i => ?_)
    · rw [up2_at]
      by_cases hi : i = ix
      · rw [if_pos hi, if_pos hi, hi]
      · rw [if_neg hi, if_neg hi]
    · rw [if_neg (by omega), up2_ne (by decide)]
    · rw [if_neg (by omega), up2_ne (by decide)]
  · rcases hwy with rfl | rfl
    · refine ⟨fun h => absurd rfl h, fun _ => ?_⟩
      unfold k_X4_mark_103
      rw [tnN (show ix < 2147483648 by omega), tnN (show j < 2147483648 by omega)]
      refine ⟨hin, hin, hij, ?_⟩
      rw [up2_ne (by decide), up2_ne (by decide), h3]
      refine ⟨fun _ => ?_, fun h => absurd h (by decide)⟩
      unfold k_X4_mark_128 k_X4_mark_130
      rw [tnN (show ix < 2147483648 by omega)]
      refine ⟨hin, hq _ (fun r h1 h2 h3 => ?_) (fun i => ?_) (fun i => ?_) (fun i => ?_)⟩
      · rw [up2_ne h2, up2_ne h1, up2_ne h3]
      · rw [up2_ne (by decide), up2_ne (by decide), up2_at]
        by_cases hi : i = ix
        · rw [if_pos hi, if_pos hi, hi]
        · rw [if_neg hi, if_neg hi]
      · rw [up2_ne (by decide), up2_at, up2_ne (by decide)]
        by_cases hi : i = ix
        · rw [if_pos hi, if_pos ⟨hi, by omega, rfl⟩, hi]
        · rw [if_neg hi, if_neg (fun h => hi h.1)]
      · rw [if_neg (by omega), up2_at, up2_ne (by decide), up2_ne (by decide), e0]
        by_cases hi : i = ix
        · rw [if_pos hi, hi]
        · rw [if_neg hi]
    · refine ⟨fun _ => ?_, fun h => absurd h (by decide)⟩
      unfold k_X4_mark_103
      rw [tnN (show ix < 2147483648 by omega), tnN (show j < 2147483648 by omega)]
      refine ⟨hin, hin, hij, ?_⟩
      rw [up2_ne (by decide), up2_ne (by decide), h3]
      refine ⟨fun h => absurd rfl h, fun _ => ?_⟩
      unfold k_X4_mark_128 k_X4_mark_130
      rw [tnN (show ix < 2147483648 by omega)]
      refine ⟨hin, hq _ (fun r h1 h2 h3 => ?_) (fun i => ?_) (fun i => ?_) (fun i => ?_)⟩
      · rw [up2_ne h2, up2_ne h1, up2_ne h3]
      · rw [up2_ne (by decide), up2_ne (by decide), up2_at]
        by_cases hi : i = ix
        · rw [if_pos hi, if_pos hi, hi]
        · rw [if_neg hi, if_neg hi]
      · rw [if_neg (by omega), up2_ne (by decide), up2_at, up2_ne (by decide), e0]
        by_cases hi : i = ix
        · rw [if_pos hi, hi]
        · rw [if_neg hi]
      · rw [up2_at, up2_ne (by decide), up2_ne (by decide)]
        by_cases hi : i = ix
        · rw [if_pos hi, if_pos ⟨hi, by omega, rfl⟩, hi]
        · rw [if_neg hi, if_neg (fun h => hi h.1)]
theorem s_mark {L : Int} {bs : List Bx} {j : Nat} {by' : Int} {w : Wd} {Q : Wd → Prop} (hL : 1 ≤ L ∧ L ≤ 12) (hv : Val L bs) (hj : j < 18) (hf : MF1 L bs w j)
    (hq : ∀ w' : Wd, (∀ r, r ≠ 13 → r ≠ 14 → r ≠ 15 → w' r = w r) → (∀ p : Nat, p < 13 → ∀ q : Nat, q < 13 → w' 13 (13 * q + p) = (if spB L bs p q j = true then w 13 (13 * q + p) + iI by' else w 13 (13 * q + p)) ∧ w' 14 (13 * q + p) = (if sqB L bs p q j = true then w 14 (13 * q + p) + iI by' else w 14 (13 * q + p)) ∧ w' 15 (13 * q + p) = (if onB L bs p q j = true then w 15 (13 * q + p) + iI by' else w 15 (13 * q + p))) → Q w') : k_X4_mark (iI j) (iI by') w Q := by
  obtain ⟨f1, f2, f3, f4⟩ := hf
  obtain ⟨t1, t2, t3, t4⟩ := ftri hL.1 hv j
  have tw := fw_01 bs j
  obtain ⟨P, hP⟩ := nat_of t1
  obtain ⟨R, hR⟩ := nat_of t2
  obtain ⟨l, hl⟩ := nat_of (show 0 ≤ fl L bs j by omega)
  rw [hP] at t1 t4 f2
  rw [hR] at t2 t4 f3
  rw [hl] at t3 t4 f4
  unfold k_X4_mark
  refine lpf_run (fun u => ∃ k : Nat, k ≤ l + 1 ∧ u.1 = iI j ∧ u.2.1 = iI by' ∧ u.2.2.1 = iI k ∧ (∀ r, r ≠ 13 → r ≠ 14 → r ≠ 15 → u.2.2.2 r = w r) ∧ ∀ p : Nat, p < 13 → ∀ q : Nat, q < 13 → u.2.2.2 13 (13 * q + p) = (if fw bs j = 0 ∧ q = R ∧ P ≤ p ∧ p < P + k ∧ p < P + l then w 13 (13 * q + p) + iI by' else w 13 (13 * q + p)) ∧ u.2.2.2 14 (13 * q + p) = (if fw bs j = 1 ∧ p = P ∧ R ≤ q ∧ q < R + k ∧ q < R + l then w 14 (13 * q + p) + iI by' else w 14 (13 * q + p)) ∧ u.2.2.2 15 (13 * q + p) = (if (fw bs j = 0 ∧ q = R ∧ P ≤ p ∧ p < P + k) ∨ (fw bs j = 1 ∧ p = P ∧ R ≤ q ∧ q < R + k) then w 15 (13 * q + p) + iI by' else w 15 (13 * q + p))) (fun u => l + 1 - u.2.2.1.toNatClampNeg) _ ⟨0, by omega, rfl, rfl, rfl, fun _ _ _ _ => rfl, fun p hp q hq => ?_⟩ ?_
  · rw [if_neg (by omega), if_neg (by omega), if_neg (by omega)]
    exact ⟨rfl, rfl, rfl⟩
  rintro K ⟨a1, a2, a3, w1⟩ ⟨k, hk, e1, e2, e3, hr, hg⟩ ih
  dsimp only at e1 e2 e3 hr hg ih ⊢
  subst e1; subst e2; subst e3
  unfold k_X4_mark_2
  have hij := inN hj (by decide)
  rw [tnN (show j < 2147483648 by omega), hr 6 (by decide) (by decide) (by decide), hr 3 (by decide) (by decide) (by decide), hr 4 (by decide) (by decide) (by decide), hr 5 (by decide) (by decide) (by decide), f1, f2, f3, f4, iI_lt (by constructor <;> omega) (by constructor <;> omega)]
  have e5 : iI (k : Int) + 1 = iI ((k + 1 : Nat) : Int) := by simp only [li_0, li_1, li_2, li_3, li_4, li_5, li_6, li_7, li_8, li_9, li_10, li_11, li_12, li_13, li_14, li_15, li_16, li_20, li_24, li_25, li_26, li_31, li_40, li_41, li_100, li_169, li_600, li_1000, li_10000, li_100000, lm_1, lm_2, lm_3, lm_4, lm_5, lm_6, lm_600, lm_10000, lm_12, iI_add, iI_sub, iI_mul, iI_neg]; rfl
  refine ⟨hij, fun h => ?_, fun h => ⟨hij, ?_⟩⟩
  · refine hq w1 hr (fun p hp q hq' => ?_)
    obtain ⟨g1, g2, g3⟩ := hg p hp q hq'
    rw [g1, g2, g3]
    have hkl : k = l + 1 := by omega
    subst hkl
    unfold spB sqB onB
    simp only [hP, hR, hl, decide_eq_true_eq]
    refine ⟨?_, ?_, ?_⟩
    · congr 1; apply propext; omega
    · congr 1; apply propext; omega
    · congr 1; apply propext; omega
  · rcases tw with tw | tw
    · rw [tw]
      refine ⟨fun h => absurd rfl h, fun _ => ⟨hij, hij, ?_⟩⟩
      rw [iI_add]
      refine s_at ?_
      rw [show (13 * (R : Int) + ((P : Int) + (k : Int))) = ((13 * R + (P + k) : Nat) : Int) by omega]
      refine s_mark58 (ln := l) (wy := 0) hj (by omega) (by omega) (Or.inl rfl) ⟨by omega, by omega⟩ (by rw [hr 3 (by decide) (by decide) (by decide), f1, tw]) (by rw [hr 6 (by decide) (by decide) (by decide), f4]) (fun w' h1 h2 h3 h4 => ?_)
      rw [e5]
      refine ih _ ⟨k + 1, by omega, rfl, rfl, rfl, fun r x1 x2 x3 => by dsimp only; rw [h1 r x1 x2 x3, hr r x1 x2 x3], fun p hp q hq' => ?_⟩ ?_
      · dsimp only
        obtain ⟨g1, g2, g3⟩ := hg p hp q hq'
        rw [h2, h3, h4, g1, g2, g3]
        simp only [tw, true_and, and_true, and_false, false_and, or_false, if_neg (show ¬ (0 : Int) = 1 by decide)]
        refine ⟨?_, ?_, ?_⟩
        · by_cases c1 : 13 * q + p = 13 * R + (P + k) ∧ (k : Int) < l
          · rw [if_pos (by omega), if_neg (by omega), if_pos (by omega)]
          · by_cases c2 : q = R ∧ P ≤ p ∧ p < P + k ∧ p < P + l
            · rw [if_neg (by omega), if_pos c2, if_pos (by omega)]
            · rw [if_neg (by omega), if_neg c2, if_neg (by omega)]
        · simp
        · by_cases c1 : 13 * q + p = 13 * R + (P + k)
          · rw [if_pos c1, if_neg (by omega), if_pos (by omega)]
          · by_cases c2 : q = R ∧ P ≤ p ∧ p < P + k
            · rw [if_neg c1, if_pos (by omega), if_pos (by omega)]
            · rw [if_neg c1, if_neg (by omega), if_neg (by omega)]
      · dsimp only
        rw [tnN (by omega), tnN (by omega)]
        omega
    · rw [tw]
      refine ⟨fun _ => ⟨hij, hij, ?_⟩, fun h => absurd h (by decide)⟩
      rw [iI_add]
      refine s_at ?_
      rw [show (13 * ((R : Int) + (k : Int)) + (P : Int)) = ((13 * (R + k) + P : Nat) : Int) by omega]
      refine s_mark58 (ln := l) (wy := 1) hj (by omega) (by omega) (Or.inr rfl) ⟨by omega, by omega⟩ (by rw [hr 3 (by decide) (by decide) (by decide), f1, tw]) (by rw [hr 6 (by decide) (by decide) (by decide), f4]) (fun w' h1 h2 h3 h4 => ?_)
      rw [e5]
      refine ih _ ⟨k + 1, by omega, rfl, rfl, rfl, fun r x1 x2 x3 => by dsimp only; rw [h1 r x1 x2 x3, hr r x1 x2 x3], fun p hp q hq' => ?_⟩ ?_
      · dsimp only
        obtain ⟨g1, g2, g3⟩ := hg p hp q hq'
        rw [h2, h3, h4, g1, g2, g3]
        simp only [tw, true_and, and_true, and_false, false_and, false_or, if_neg (show ¬ (1 : Int) = 0 by decide)]
        refine ⟨?_, ?_, ?_⟩
        · simp
        · by_cases c1 : 13 * q + p = 13 * (R + k) + P ∧ (k : Int) < l
          · rw [if_pos (by omega), if_neg (by omega), if_pos (by omega)]
          · by_cases c2 : p = P ∧ R ≤ q ∧ q < R + k ∧ q < R + l
            · rw [if_neg (by omega), if_pos c2, if_pos (by omega)]
            · rw [if_neg (by omega), if_neg c2, if_neg (by omega)]
        · by_cases c1 : 13 * q + p = 13 * (R + k) + P
          · rw [if_pos c1, if_neg (by omega), if_pos (by omega)]
          · by_cases c2 : p = P ∧ R ≤ q ∧ q < R + k
            · rw [if_neg c1, if_pos (by omega), if_pos (by omega)]
            · rw [if_neg c1, if_neg (by omega), if_neg (by omega)]
      · dsimp only
        rw [tnN (by omega), tnN (by omega)]
        omega
