/-! the model goes the same way -/
theorem ML_same {L : Int} {bs : List Bx} {w w' : Wd} (h : ∀ r, r < 16 → w' r = w r) (hm : ML L bs w) : ML L bs w' := by
  obtain ⟨c7, c12, cf, ck, cg⟩ := hm
  refine ⟨?_, ?_, fun j hj => ?_, fun j hj => ?_, ?_⟩
  · rw [h 7 (by decide)]; exact c7
  · rw [h 12 (by decide)]; exact c12
  · have := cf j hj
    unfold MF1 at this ⊢
    rw [h 3 (by decide), h 4 (by decide), h 5 (by decide), h 6 (by decide)]
    exact this
  · have := ck j hj
    unfold MK1 at this ⊢
    rw [h 8 (by decide), h 9 (by decide), h 10 (by decide), h 11 (by decide)]
    exact this
  · unfold GR at cg ⊢
    rw [h 13 (by decide), h 14 (by decide), h 15 (by decide)]
    exact cg
def MS (w : Wd) (s : S5) : Prop := w 16 0 = iI s.1 ∧ w 17 0 = iI s.2.1 ∧ w 18 0 = iI s.2.2.1 ∧ w 19 0 = iI s.2.2.2.1 ∧ w 20 0 = iI s.2.2.2.2
theorem s_keepBest {w : Wd} {s : S5} {N : Nat} (hN : N < 1000000) (hb : bdS N s) (hs : MS w s) {k a b : Nat} (ha : 1 ≤ a ∧ a ≤ 12) (hb' : 1 ≤ b ∧ b ≤ 12) {Q : Wd → Prop} (hq : ∀ w' : Wd, (∀ r, r < 16 → w' r = w r) → MS (up2 w' 16 0 (w' 16 0 + 1)) (meetS s k a b) → Q w') : k_X4_keepBest (iI k) (iI a) (iI b) w Q := by
  have := mul_bd (a := a) (b := b) (by omega) (by omega)
  obtain ⟨s0, s1, s2, s3, s4⟩ := hs
  unfold bdS at hb
  unfold k_X4_keepBest
  rw [s1, iI_mul, iI_le (by constructor <;> omega) (by constructor <;> omega)]
  unfold meetS at hq
  have e : iI s.1 + 1 = iI (s.1 + 1) := by simp only [li_0, li_1, li_2, li_3, li_4, li_5, li_6, li_7, li_8, li_9, li_10, li_11, li_12, li_13, li_14, li_15, li_16, li_20, li_24, li_25, li_26, li_31, li_40, li_41, li_100, li_169, li_600, li_1000, li_10000, li_100000, lm_1, lm_2, lm_3, lm_4, lm_5, lm_6, lm_600, lm_10000, lm_12, iI_add, iI_sub, iI_mul, iI_neg]
  refine ⟨fun h => hq _ (fun _ _ => rfl) ?_, fun h => hq _ (fun r hr => ?_) ?_⟩
  · rw [if_neg (by omega)]
    refine ⟨?_, ?_, ?_, ?_, ?_⟩
    · rw [up2_at, if_pos rfl, s0, e]
    · rw [up2_ne (by decide)]; exact s1
    · rw [up2_ne (by decide)]; exact s2
    · rw [up2_ne (by decide)]; exact s3
    · rw [up2_ne (by decide)]; exact s4
  · rw [up2_ne (by omega), up2_ne (by omega), up2_ne (by omega), up2_ne (by omega)]
  · rw [if_pos (by omega)]
    refine ⟨?_, ?_, ?_, ?_, ?_⟩
    · rw [up2_at, if_pos rfl, up2_ne (by decide), up2_ne (by decide), up2_ne (by decide), up2_ne (by decide), s0, e]
    · rw [up2_ne (by decide), up2_ne (by decide), up2_ne (by decide), up2_ne (by decide), up2_at, if_pos rfl]
    · rw [up2_ne (by decide), up2_ne (by decide), up2_ne (by decide), up2_at, if_pos rfl]
    · rw [up2_ne (by decide), up2_ne (by decide), up2_at, if_pos rfl]
    · rw [up2_ne (by decide), up2_at, if_pos rfl]
theorem s_lw71 {L : Int} {bs : List Bx} (hL : 4 ≤ L ∧ L ≤ 12) (hv : Val L bs) {w : Wd} (hc : ML L bs w) (h0 : w 0 0 = iI L) {k a : Nat} (hk : k < 5 * bs.length + 1) (ha : 1 ≤ a) (har : a ≤ rchK L bs k 0) {s : S5} {N : Nat} (hN : N < 900000) (hb : bdS N s) (hs : MS w s) {nb rp : Int32} {K30 : (Int32 × Int32 × Wd) → Prop} {K62 : (Int32 × Int32 × Int32 × Int32 × Int32 × Wd) → Prop} {Q : Wd → Prop}
    (hK : ∀ w' : Wd, (∀ r, r < 16 → w' r = w r) → MS w' (loopB L bs k a (rchK L bs k 1) s) → K62 (nb, iI k, rp, iI (rchK L bs k 1), iI a + 1, w')) :
    ∃ n : Nat, lpf (fun (K : (Int32 × Int32 × Int32 × Int32 × Int32 × Int32 × Wd) → Prop) (u : Int32 × Int32 × Int32 × Int32 × Int32 × Int32 × Wd) => k_X4_layWays_71 K30 K62 K Q u.1 u.2.1 u.2.2.1 u.2.2.2.1 u.2.2.2.2.1 u.2.2.2.2.2.1 u.2.2.2.2.2.2) n (nb, iI k, rp, iI (rchK L bs k 1), iI a, 1, w) := by
  have l0 := rch_le (pcB L bs k 0)
  have l1 := rch_le (pcB L bs k 1)
  change rchK L bs k 0 ≤ 12 at l0
  change rchK L bs k 1 ≤ 12 at l1
  refine lpf_run (fun u => ∃ b : Nat, 1 ≤ b ∧ b ≤ rchK L bs k 1 + 1 ∧ u.1 = nb ∧ u.2.1 = iI k ∧ u.2.2.1 = rp ∧ u.2.2.2.1 = iI (rchK L bs k 1) ∧ u.2.2.2.2.1 = iI a ∧ u.2.2.2.2.2.1 = iI b ∧ (∀ r, r < 16 → u.2.2.2.2.2.2 r = w r) ∧ MS u.2.2.2.2.2.2 (loopB L bs k a (b - 1) s)) (fun u => rchK L bs k 1 + 1 - u.2.2.2.2.2.1.toNatClampNeg) _ ⟨1, by omega, by omega, rfl, rfl, rfl, rfl, rfl, rfl, fun _ _ => rfl, hs⟩ ?_
  rintro K ⟨a1, a2, a3, a4, a5, a6, w1⟩ ⟨b, hb1, hb2, e1, e2, e3, e4, e5, e6, hr1, hs1⟩ ih
  dsimp only at e1 e2 e3 e4 e5 e6 hs1 hr1 ih ⊢
  subst e1; subst e2; subst e3; subst e4; subst e5; subst e6
  have ee : iI (b : Int) + 1 = iI ((b + 1 : Nat) : Int) := by simp only [li_0, li_1, li_2, li_3, li_4, li_5, li_6, li_7, li_8, li_9, li_10, li_11, li_12, li_13, li_14, li_15, li_16, li_20, li_24, li_25, li_26, li_31, li_40, li_41, li_100, li_169, li_600, li_1000, li_10000, li_100000, lm_1, lm_2, lm_3, lm_4, lm_5, lm_6, lm_600, lm_10000, lm_12, iI_add, iI_sub, iI_mul, iI_neg]; rfl
  unfold k_X4_layWays_71
  rw [iI_lt (by constructor <;> omega) (by constructor <;> omega)]
  refine ⟨fun h => ?_, fun h => ?_⟩
  · have : b - 1 = rchK L bs k 1 := by omega
    rw [this] at hs1
    exact hK w1 hr1 hs1
  · have hwr := whyN_rng L bs k a b
    have next : ∀ w' : Wd, (∀ r, r < 16 → w' r = w r) → MS w' (loopB L bs k a b s) → K (a1, iI k, a3, iI (rchK L bs k 1), iI a, iI b + 1, w') := fun w' hr' hs' => by
      rw [ee]
      refine ih _ ⟨b + 1, by omega, by omega, rfl, rfl, rfl, rfl, rfl, rfl, hr', ?_⟩ ?_
      · dsimp only
        rw [show b + 1 - 1 = b by omega]
        exact hs'
      · dsimp only
        rw [tnN (by omega), tnN (by omega)]
        omega
    have hstep : loopB L bs k a b s = stepS L bs k a b (loopB L bs k a (b - 1) s) := by
      obtain ⟨c, rfl⟩ : ∃ c, b = c + 1 := ⟨b - 1, by omega⟩
      rfl
    have hbd := loopB_bd (L := L) (bs := bs) (k := k) (a := a) (by omega) hb (b - 1) (by omega)
    refine s_whyNot hL hv (ML_same hr1 hc) (by rw [hr1 0 (by decide)]; exact h0) hk (by omega) (by omega) ?_
    rw [li_0, iI_eq (by constructor <;> omega) (by constructor <;> omega)]
    unfold stepS at hstep
    refine ⟨fun h2 => ?_, fun h2 => ?_⟩
    · unfold k_X4_layWays_109
      rw [if_neg h2] at hstep
      rw [← hstep] at hs1
      exact next w1 hr1 hs1
    · rw [if_pos h2] at hstep
      refine s_keepBest (N := N + (b - 1)) (by omega) hbd hs1 (by omega) (by omega) (fun w' hr' hs' => ?_)
      unfold k_X4_layWays_109
      rw [← hstep] at hs'
      exact next _ (fun r hr => by rw [up2_ne (by omega), hr' r hr, hr1 r hr]) hs'
theorem s_lw62 {L : Int} {bs : List Bx} (hL : 4 ≤ L ∧ L ≤ 12) (hv : Val L bs) {w : Wd} (hc : ML L bs w) (h0 : w 0 0 = iI L) {k : Nat} (hk : k < 5 * bs.length + 1) {s : S5} {N : Nat} (hN : N < 800000) (hb : bdS N s) (hs : MS w s) {nb : Int32} {K30 : (Int32 × Int32 × Wd) → Prop} {Q : Wd → Prop}
    (hK : ∀ w' : Wd, (∀ r, r < 16 → w' r = w r) → MS w' (loopA L bs k (rchK L bs k 1) (rchK L bs k 0) s) → K30 (nb, iI k + 1, w')) :
    ∃ n : Nat, lpf (fun (K : (Int32 × Int32 × Int32 × Int32 × Int32 × Wd) → Prop) (u : Int32 × Int32 × Int32 × Int32 × Int32 × Wd) => k_X4_layWays_62 K30 K Q u.1 u.2.1 u.2.2.1 u.2.2.2.1 u.2.2.2.2.1 u.2.2.2.2.2) n (nb, iI k, iI (rchK L bs k 0), iI (rchK L bs k 1), 1, w) := by
  have l0 := rch_le (pcB L bs k 0)
  have l1 := rch_le (pcB L bs k 1)
  change rchK L bs k 0 ≤ 12 at l0
  change rchK L bs k 1 ≤ 12 at l1
  refine lpf_run (fun u => ∃ a : Nat, 1 ≤ a ∧ a ≤ rchK L bs k 0 + 1 ∧ u.1 = nb ∧ u.2.1 = iI k ∧ u.2.2.1 = iI (rchK L bs k 0) ∧ u.2.2.2.1 = iI (rchK L bs k 1) ∧ u.2.2.2.2.1 = iI a ∧ (∀ r, r < 16 → u.2.2.2.2.2 r = w r) ∧ MS u.2.2.2.2.2 (loopA L bs k (rchK L bs k 1) (a - 1) s)) (fun u => rchK L bs k 0 + 1 - u.2.2.2.2.1.toNatClampNeg) _ ⟨1, by omega, by omega, rfl, rfl, rfl, rfl, rfl, fun _ _ => rfl, hs⟩ ?_
  rintro K ⟨a1, a2, a3, a4, a5, w1⟩ ⟨a, ha1, ha2, e1, e2, e3, e4, e5, hr1, hs1⟩ ih
  dsimp only at e1 e2 e3 e4 e5 hs1 hr1 ih ⊢
  subst e1; subst e2; subst e3; subst e4; subst e5
  have ee : iI (a : Int) + 1 = iI ((a + 1 : Nat) : Int) := by simp only [li_0, li_1, li_2, li_3, li_4, li_5, li_6, li_7, li_8, li_9, li_10, li_11, li_12, li_13, li_14, li_15, li_16, li_20, li_24, li_25, li_26, li_31, li_40, li_41, li_100, li_169, li_600, li_1000, li_10000, li_100000, lm_1, lm_2, lm_3, lm_4, lm_5, lm_6, lm_600, lm_10000, lm_12, iI_add, iI_sub, iI_mul, iI_neg]; rfl
  unfold k_X4_layWays_62
  rw [iI_lt (by constructor <;> omega) (by constructor <;> omega)]
  refine ⟨fun h => ?_, fun h => ?_⟩
  · have : a - 1 = rchK L bs k 0 := by omega
    rw [this] at hs1
    exact hK w1 hr1 hs1
  · have hbd := loopA_bd (L := L) (bs := bs) (k := k) (rq := rchK L bs k 1) l1 hb (a - 1) (by omega)
    refine s_lw71 (N := N + 12 * (a - 1)) hL hv (ML_same hr1 hc) (by rw [hr1 0 (by decide)]; exact h0) hk ha1 (by omega) (by omega) hbd hs1 (fun w' hr' hs' => ?_)
    rw [ee]
    refine ih _ ⟨a + 1, by omega, by omega, rfl, rfl, rfl, rfl, rfl, fun r hr => ?_, ?_⟩ ?_
    · dsimp only
      rw [hr' r hr, hr1 r hr]
    · dsimp only
      obtain ⟨c, rfl⟩ : ∃ c, a = c + 1 := ⟨a - 1, by omega⟩
      exact hs'
    · dsimp only
      rw [tnN (by omega), tnN (by omega)]
      omega
theorem s_layWays {L : Int} {bs : List Bx} (hL : 4 ≤ L ∧ L ≤ 12) (hv : Val L bs) {w : Wd} (hc : ML L bs w) (h0 : w 0 0 = iI L) {Q : Wd → Prop} (hq : ∀ w' : Wd, (∀ r, r < 16 → w' r = w r) → MS w' (if bs.length = 6 then (0, 0, -6, -6, -6) else sweepS L bs (0, 0, -6, -6, -6)) → Q w') : k_X4_layWays (iI bs.length) w Q := by
  have hlen := Val_len hv
  unfold k_X4_layWays
  have hr0 : ∀ r, r < 16 → up2 (up2 (up2 (up2 (up2 w 16 0 0) 17 0 0) 18 0 (-6)) 19 0 (-6)) 20 0 (-6) r = w r := fun r hr => by
    rw [up2_ne (by omega), up2_ne (by omega), up2_ne (by omega), up2_ne (by omega), up2_ne (by omega)]
  have hs0 : MS (up2 (up2 (up2 (up2 (up2 w 16 0 0) 17 0 0) 18 0 (-6)) 19 0 (-6)) 20 0 (-6)) (0, 0, -6, -6, -6) := by
    refine ⟨?_, ?_, ?_, ?_, ?_⟩
    · rw [up2_ne (by decide), up2_ne (by decide), up2_ne (by decide), up2_ne (by decide), up2_at, if_pos rfl]; rfl
    · rw [up2_ne (by decide), up2_ne (by decide), up2_ne (by decide), up2_at, if_pos rfl]; rfl
    · rw [up2_ne (by decide), up2_ne (by decide), up2_at, if_pos rfl]; rfl
    · rw [up2_ne (by decide), up2_at, if_pos rfl]; rfl
    · rw [up2_at, if_pos rfl]; rfl
  generalize hW : up2 (up2 (up2 (up2 (up2 w 16 0 0) 17 0 0) 18 0 (-6)) 19 0 (-6)) 20 0 (-6) = W at hr0 hs0
  refine lpf_run (fun u => ∃ k : Nat, k ≤ 5 * bs.length + 1 ∧ u.1 = iI bs.length ∧ u.2.1 = iI k ∧ (∀ r, r < 16 → u.2.2 r = w r) ∧ MS u.2.2 (loopK L bs k (0, 0, -6, -6, -6)) ∧ (bs.length = 6 → k = 0)) (fun u => 5 * bs.length + 1 - u.2.1.toNatClampNeg) _ ⟨0, by omega, rfl, rfl, hr0, hs0, fun _ => rfl⟩ ?_
  rintro K ⟨a1, a2, w1⟩ ⟨k, hk, e1, e2, hr1, hs1, h6⟩ ih
  dsimp only at e1 e2 hs1 hr1 ih ⊢
  subst e1; subst e2
  have ee : iI (k : Int) + 1 = iI ((k + 1 : Nat) : Int) := by simp only [li_0, li_1, li_2, li_3, li_4, li_5, li_6, li_7, li_8, li_9, li_10, li_11, li_12, li_13, li_14, li_15, li_16, li_20, li_24, li_25, li_26, li_31, li_40, li_41, li_100, li_169, li_600, li_1000, li_10000, li_100000, lm_1, lm_2, lm_3, lm_4, lm_5, lm_6, lm_600, lm_10000, lm_12, iI_add, iI_sub, iI_mul, iI_neg]; rfl
  unfold k_X4_layWays_30
  rw [hr1 12 (by decide), hc.2.1, li_6, iI_le (by constructor <;> omega) (by constructor <;> omega), iI_le (by constructor <;> omega) (by constructor <;> omega)]
  refine ⟨fun h => ?_, fun h => ⟨fun h2 => ?_, fun h2 => ?_⟩⟩
  · have : k = 5 * bs.length + 1 := by omega
    subst this
    refine hq w1 hr1 ?_
    rw [if_neg (fun h7 => by have := h6 h7; omega)]
    exact hs1
  · have h7 : bs.length = 6 := by omega
    rw [h6 h7] at hs1
    refine hq w1 hr1 ?_
    rw [if_pos h7]
    exact hs1
  · have hbd := loopK_bd (L := L) (bs := bs) (s := (0, 0, -6, -6, -6)) (N := 0) (by unfold bdS; dsimp only; omega) k
    have hc1 := ML_same hr1 hc
    refine s_reachM hL hv hc1 (by omega) (al := 0) (by decide) ?_
    refine s_reachM hL hv hc1 (by omega) (al := 1) (by decide) ?_
    refine s_lw62 (N := 0 + 144 * k) hL hv hc1 (by rw [hr1 0 (by decide)]; exact h0) (by omega) (by omega) hbd hs1 (fun w' hr' hs' => ?_)
    rw [ee]
    refine ih _ ⟨k + 1, by omega, rfl, rfl, fun r hr => ?_, hs', fun h7 => absurd h7 (by omega)⟩ ?_
    · dsimp only
      rw [hr' r hr, hr1 r hr]
    · dsimp only
      rw [tnN (by omega), tnN (by omega)]
      omega
