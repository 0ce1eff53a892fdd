/-! all boxes that can be: both sides go through them in one order -/
abbrev S5 : Type := Int × Int × Int × Int × Int
def meetS (s : S5) (k : Nat) (a b : Int) : S5 := if s.2.1 < a * b then (s.1 + 1, a * b, k, a, b) else (s.1 + 1, s.2)
def stepS (L : Int) (bs : List Bx) (k : Nat) (a b : Int) (s : S5) : S5 := if whyN L bs k a b = 0 then meetS s k a b else s
def loopB (L : Int) (bs : List Bx) (k a : Nat) : Nat → S5 → S5
  | 0, s => s
  | n + 1, s => stepS L bs k a ((n + 1 : Nat) : Int) (loopB L bs k a n s)
def loopA (L : Int) (bs : List Bx) (k rq : Nat) : Nat → S5 → S5
  | 0, s => s
  | n + 1, s => loopB L bs k (n + 1) rq (loopA L bs k rq n s)
def loopK (L : Int) (bs : List Bx) : Nat → S5 → S5
  | 0, s => s
  | n + 1, s => loopA L bs n (rchK L bs n 1) (rchK L bs n 0) (loopK L bs n s)
def sweepS (L : Int) (bs : List Bx) (s : S5) : S5 := loopK L bs (5 * bs.length + 1) s
/-- bounds -/
def bdS (N : Nat) (s : S5) : Prop := 0 ≤ s.1 ∧ s.1 ≤ N ∧ 0 ≤ s.2.1 ∧ s.2.1 ≤ 144
theorem mul_bd {a b : Int} (ha : 1 ≤ a ∧ a ≤ 12) (hb : 1 ≤ b ∧ b ≤ 12) : 1 ≤ a * b ∧ a * b ≤ 144 := by
  have h1 : 1 * 1 ≤ a * b := Int.mul_le_mul ha.1 hb.1 (by decide) (by omega)
  have h2 : a * b ≤ 12 * 12 := Int.mul_le_mul ha.2 hb.2 (by omega) (by decide)
  omega
theorem stepS_bd {L : Int} {bs : List Bx} {k : Nat} {a b : Int} {s : S5} {N : Nat} (ha : 1 ≤ a ∧ a ≤ 12) (hb : 1 ≤ b ∧ b ≤ 12) (h : bdS N s) : bdS (N + 1) (stepS L bs k a b s) := by
  have := mul_bd ha hb
  unfold bdS at *
  unfold stepS meetS
  split
  · split <;> dsimp only <;> omega
  · omega
theorem loopB_bd {L : Int} {bs : List Bx} {k a : Nat} (ha : 1 ≤ a ∧ a ≤ 12) {s : S5} {N : Nat} (h : bdS N s) : ∀ n, n ≤ 12 → bdS (N + n) (loopB L bs k a n s)
  | 0, _ => h
  | n + 1, hn => stepS_bd (by omega) (by omega) (loopB_bd ha h n (by omega))
theorem loopA_bd {L : Int} {bs : List Bx} {k rq : Nat} (hrq : rq ≤ 12) {s : S5} {N : Nat} (h : bdS N s) : ∀ n, n ≤ 12 → bdS (N + 12 * n) (loopA L bs k rq n s)
  | 0, _ => h
  | n + 1, hn => by
    have := loopB_bd (L := L) (bs := bs) (k := k) (a := n + 1) (by omega) (loopA_bd (L := L) (bs := bs) (k := k) hrq h n (by omega)) rq hrq
    unfold bdS at this ⊢
    unfold loopA
    omega
theorem loopK_bd {L : Int} {bs : List Bx} {s : S5} {N : Nat} (h : bdS N s) : ∀ n, bdS (N + 144 * n) (loopK L bs n s)
  | 0 => h
  | n + 1 => by
    have := loopA_bd (L := L) (bs := bs) (k := n) (rch_le (pcB L bs n 1)) (loopK_bd (L := L) (bs := bs) h n) (rchK L bs n 0) (rch_le _)
    have h2 := rch_le (pcB L bs n 0)
    unfold bdS at this ⊢
    unfold loopK
    unfold rchK at this ⊢
    omega
/-- two starts that differ in nothing that counts -/
def RS (s t : S5) : Prop := s.1 = t.1 ∧ s.2.1 = t.2.1 ∧ (0 < s.2.1 → s.2.2 = t.2.2) ∧ (s.1 = 0 ↔ s.2.1 = 0) ∧ 0 ≤ s.1 ∧ 0 ≤ s.2.1
theorem stepS_RS {L : Int} {bs : List Bx} {k : Nat} {a b : Int} {s t : S5} (ha : 1 ≤ a ∧ a ≤ 12) (hb : 1 ≤ b ∧ b ≤ 12) (h : RS s t) : RS (stepS L bs k a b s) (stepS L bs k a b t) := by
  have := mul_bd ha hb
  unfold RS at *
  obtain ⟨h1, h2, h3, h4, h5, h6⟩ := h
  unfold stepS meetS
  split
  · rw [← h2]
    split
    · refine ⟨by dsimp only; omega, rfl, fun _ => rfl, by dsimp only; omega, by dsimp only; omega, by dsimp only; omega⟩
    · refine ⟨by dsimp only; omega, h2, h3, by dsimp only; omega, by dsimp only; omega, by dsimp only; omega⟩
  · exact ⟨h1, h2, h3, h4, h5, h6⟩
theorem loopB_RS {L : Int} {bs : List Bx} {k a : Nat} (ha : 1 ≤ a ∧ a ≤ 12) {s t : S5} (h : RS s t) : ∀ n, n ≤ 12 → RS (loopB L bs k a n s) (loopB L bs k a n t)
  | 0, _ => h
  | n + 1, hn => stepS_RS (by omega) (by omega) (loopB_RS ha h n (by omega))
theorem loopA_RS {L : Int} {bs : List Bx} {k rq : Nat} (hrq : rq ≤ 12) {s t : S5} (h : RS s t) : ∀ n, n ≤ 12 → RS (loopA L bs k rq n s) (loopA L bs k rq n t)
  | 0, _ => h
  | n + 1, hn => loopB_RS (by omega) (loopA_RS hrq h n (by omega)) rq hrq
theorem loopK_RS {L : Int} {bs : List Bx} {s t : S5} (h : RS s t) : ∀ n, RS (loopK L bs n s) (loopK L bs n t)
  | 0 => h
  | n + 1 => loopA_RS (rch_le _) (loopK_RS h n) _ (rch_le _)
theorem sweep_RS {L : Int} {bs : List Bx} (z z' : Int × Int × Int) : RS (sweepS L bs (0, 0, z)) (sweepS L bs (0, 0, z')) := loopK_RS (s := (0, 0, z)) (t := (0, 0, z')) ⟨rfl, rfl, fun h => absurd h (Int.lt_irrefl 0), Iff.rfl, Int.le_refl 0, Int.le_refl 0⟩ _
theorem sweep_bd {L : Int} {bs : List Bx} (hlen : bs.length ≤ 6) (z : Int × Int × Int) : bdS 100000 (sweepS L bs (0, 0, z)) := by
  have := loopK_bd (L := L) (bs := bs) (s := (0, 0, z)) (N := 0) (by unfold bdS; dsimp only; omega) (5 * bs.length + 1)
  unfold sweepS
  unfold bdS at this ⊢
  omega
/-! the program -/
def SR (w : Wd) (s : S5) : Prop := w 0 0 = iI s.1 ∧ w 1 0 = iI s.2.1 ∧ w 2 0 = iI s.2.2.1 ∧ w 3 0 = iI s.2.2.2.1 ∧ w 4 0 = iI s.2.2.2.2
theorem s_meet {ws : Wd} {s : S5} {N : Nat} (hN : N < 1000000) (hb : bdS N s) (hs : SR ws s) {k a b : Nat} (ha : 1 ≤ a ∧ a ≤ 12) (hb' : 1 ≤ b ∧ b ≤ 12) {Q : Wd → Prop} (hq : ∀ w' : Wd, SR w' (meetS s k a b) → Q w') : k_X1_meet (iI k) (iI a) (iI b) ws Q := by
  have := mul_bd (a := a) (b := b) (by omega) (by omega)
  obtain ⟨s0, s1, s2, s3, s4⟩ := hs
  unfold bdS at hb
  unfold k_X1_meet
  rw [up2_ne (show (1 : Nat) ≠ 0 by decide), s0, s1, iI_mul, iI_lt (by constructor <;> omega) (by constructor <;> omega)]
  unfold meetS at hq
  have e : iI s.1 + 1 = iI (s.1 + 1) := by simp only [li_0, li_1, li_2, li_3, li_4, li_5, li_6, li_7, li_8, li_9, li_10, li_11, li_12, li_13, li_14, li_15, li_16, li_20, li_24, li_25, li_26, li_31, li_40, li_41, li_100, li_169, li_600, li_1000, li_10000, li_100000, lm_1, lm_2, lm_3, lm_4, lm_5, lm_6, lm_600, lm_10000, lm_12, iI_add, iI_sub, iI_mul, iI_neg]
  rw [e]
  refine ⟨fun h => hq _ ?_, fun h => hq _ ?_⟩
  · rw [if_pos h]
    refine ⟨?_, ?_, ?_, ?_, ?_⟩
    · rw [up2_ne (by decide), up2_ne (by decide), up2_ne (by decide), up2_ne (by decide), up2_at, if_pos rfl]
    · rw [up2_ne (by decide), up2_ne (by decide), up2_ne (by decide), up2_at, if_pos rfl]
    · rw [up2_ne (by decide), up2_ne (by decide), up2_at, if_pos rfl]
    · rw [up2_ne (by decide), up2_at, if_pos rfl]
    · rw [up2_at, if_pos rfl]
  · rw [if_neg h]
    refine ⟨?_, ?_, ?_, ?_, ?_⟩
    · rw [up2_at, if_pos rfl]
    · rw [up2_ne (by decide)]; exact s1
    · rw [up2_ne (by decide)]; exact s2
    · rw [up2_ne (by decide)]; exact s3
    · rw [up2_ne (by decide)]; exact s4
theorem whyN_in {L : Int} {bs : List Bx} {k : Nat} {a b : Nat} (ha : a ≤ rchK L bs k 0) (hb : b ≤ rchK L bs k 1) : whyN L bs k a b = whyW L bs k a b := by
  unfold whyN
  rw [if_neg (by omega)]
theorem whyW_rng (L : Int) (bs : List Bx) (k : Nat) (a b : Int) : whyW L bs k a b = 0 ∨ whyW L bs k a b = 2 ∨ whyW L bs k a b = 3 := by
  unfold whyW
  split
  · simp
  · split <;> simp
theorem whyN_rng (L : Int) (bs : List Bx) (k : Nat) (a b : Int) : 0 ≤ whyN L bs k a b ∧ whyN L bs k a b ≤ 3 := by
  have := whyW_rng L bs k a b
  unfold whyN
  split <;> omega
theorem s_sw59 {L : Int} {bs : List Bx} (hL : 4 ≤ L ∧ L ≤ 12) (hv : Val L bs) {wc : Wd} (hc : CR L bs wc) {k a : Nat} (hk : k < 5 * bs.length + 1) (ha : 1 ≤ a) (har : a ≤ rchK L bs k 0) {s : S5} {N : Nat} (hN : N < 900000) (hb : bdS N s) {ws : Wd} (hs : SR ws s) {nc rp : Int32} {K25 : (Int32 × Int32 × Wd × Wd) → Prop} {K49 : (Int32 × Int32 × Int32 × Int32 × Int32 × Wd × Wd) → Prop} {Q : Wd → Wd → Prop}
    (hK : ∀ ws' : Wd, SR ws' (loopB L bs k a (rchK L bs k 1) s) → K49 (nc, iI k, rp, iI (rchK L bs k 1), iI a + 1, ws', wc)) :
    ∃ n : Nat, lpf (fun (K : (Int32 × Int32 × Int32 × Int32 × Int32 × Int32 × Wd × Wd) → Prop) (u : Int32 × Int32 × Int32 × Int32 × Int32 × Int32 × Wd × Wd) => k_X1_sweep_59 K25 K49 K Q u.1 u.2.1 u.2.2.1 u.2.2.2.1 u.2.2.2.2.1 u.2.2.2.2.2.1 u.2.2.2.2.2.2.1 u.2.2.2.2.2.2.2) n (nc, iI k, rp, iI (rchK L bs k 1), iI a, 1, ws, wc) := by
  have l0 := rch_le (pcB L bs k 0)
  have l1 := rch_le (pcB L bs k 1)
  change rchK L bs k 0 ≤ 12 at l0
  change rchK L bs k 1 ≤ 12 at l1
  generalize hrq : rchK L bs k 1 = rq at l1 hK ⊢
  refine lpf_run (fun u => ∃ b : Nat, 1 ≤ b ∧ b ≤ rq + 1 ∧ u.1 = nc ∧ u.2.1 = iI k ∧ u.2.2.1 = rp ∧ u.2.2.2.1 = iI rq ∧ u.2.2.2.2.1 = iI a ∧ u.2.2.2.2.2.1 = iI b ∧ SR u.2.2.2.2.2.2.1 (loopB L bs k a (b - 1) s) ∧ u.2.2.2.2.2.2.2 = wc) (fun u => rq + 1 - u.2.2.2.2.2.1.toNatClampNeg) _ ⟨1, by omega, by omega, rfl, rfl, rfl, rfl, rfl, rfl, hs, rfl⟩ ?_
  rintro K ⟨a1, a2, a3, a4, a5, a6, w1, w2⟩ ⟨b, hb1, hb2, e1, e2, e3, e4, e5, e6, hs1, e8⟩ ih
  dsimp only at e1 e2 e3 e4 e5 e6 hs1 e8 ih ⊢
  subst e1; subst e2; subst e3; subst e4; subst e5; subst e6; subst e8
  have ee : iI (b : Int) + 1 = iI ((b + 1 : Nat) : Int) := by simp only [li_0, li_1, li_2, li_3, li_4, li_5, li_6, li_7, li_8, li_9, li_10, li_11, li_12, li_13, li_14, li_15, li_16, li_20, li_24, li_25, li_26, li_31, li_40, li_41, li_100, li_169, li_600, li_1000, li_10000, li_100000, lm_1, lm_2, lm_3, lm_4, lm_5, lm_6, lm_600, lm_10000, lm_12, iI_add, iI_sub, iI_mul, iI_neg]; rfl
  unfold k_X1_sweep_59
  rw [iI_lt (by constructor <;> omega) (by constructor <;> omega)]
  refine ⟨fun h => ?_, fun h => ?_⟩
  · have : b = rq + 1 := by omega
    subst this
    rw [show rq + 1 - 1 = rq by omega] at hs1
    exact hK w1 hs1
  · have hbr : b ≤ rchK L bs k 1 := by omega
    have hwr := whyW_rng L bs k a b
    have next : ∀ ws' : Wd, SR ws' (loopB L bs k a b s) → K (a1, iI k, a3, iI rq, iI a, iI b + 1, ws', w2) := fun ws' hs' => by
      rw [ee]
      refine ih _ ⟨b + 1, by omega, by omega, rfl, rfl, rfl, rfl, rfl, rfl, ?_, rfl⟩ ?_
      · dsimp only
        rw [show b + 1 - 1 = b by omega]
        exact hs'
      · dsimp only
        rw [tnN (by omega), tnN (by omega)]
        omega
    have hstep : loopB L bs k a b s = stepS L bs k a b (loopB L bs k a (b - 1) s) := by
      obtain ⟨c, rfl⟩ : ∃ c, b = c + 1 := ⟨b - 1, by omega⟩
      rfl
    have hbd := loopB_bd (L := L) (bs := bs) (k := k) (a := a) (by omega) hb (b - 1) (by omega)
    refine s_reasonWithin hL hv hc hk ha hb1 har hbr ?_
    rw [li_0, iI_eq (by constructor <;> omega) (by constructor <;> omega)]
    unfold stepS at hstep
    rw [whyN_in har hbr] at hstep
    refine ⟨fun h2 => ?_, fun h2 => ?_⟩
    · unfold k_X1_sweep_87
      rw [if_neg h2] at hstep
      rw [← hstep] at hs1
      exact next w1 hs1
    · rw [if_pos h2] at hstep
      refine s_meet (N := N + (b - 1)) (by omega) hbd hs1 (by omega) (by omega) (fun ws' hs' => ?_)
      unfold k_X1_sweep_87
      rw [← hstep] at hs'
      exact next ws' hs'
theorem s_sw49 {L : Int} {bs : List Bx} (hL : 4 ≤ L ∧ L ≤ 12) (hv : Val L bs) {wc : Wd} (hc : CR L bs wc) {k : Nat} (hk : k < 5 * bs.length + 1) {s : S5} {N : Nat} (hN : N < 800000) (hb : bdS N s) {ws : Wd} (hs : SR ws s) {nc : Int32} {K25 : (Int32 × Int32 × Wd × Wd) → Prop} {Q : Wd → Wd → Prop}
    (hK : ∀ ws' : Wd, SR ws' (loopA L bs k (rchK L bs k 1) (rchK L bs k 0) s) → K25 (nc, iI k + 1, ws', wc)) :
    ∃ n : Nat, lpf (fun (K : (Int32 × Int32 × Int32 × Int32 × Int32 × Wd × Wd) → Prop) (u : Int32 × Int32 × Int32 × Int32 × Int32 × Wd × Wd) => k_X1_sweep_49 K25 K Q u.1 u.2.1 u.2.2.1 u.2.2.2.1 u.2.2.2.2.1 u.2.2.2.2.2.1 u.2.2.2.2.2.2) n (nc, iI k, iI (rchK L bs k 0), iI (rchK L bs k 1), 1, ws, wc) := by
  have l0 := rch_le (pcB L bs k 0)
  have l1 := rch_le (pcB L bs k 1)
  change rchK L bs k 0 ≤ 12 at l0
  change rchK L bs k 1 ≤ 12 at l1
  refine lpf_run (fun u => ∃ a : Nat, 1 ≤ a ∧ a ≤ rchK L bs k 0 + 1 ∧ u.1 = nc ∧ u.2.1 = iI k ∧ u.2.2.1 = iI (rchK L bs k 0) ∧ u.2.2.2.1 = iI (rchK L bs k 1) ∧ u.2.2.2.2.1 = iI a ∧ SR u.2.2.2.2.2.1 (loopA L bs k (rchK L bs k 1) (a - 1) s) ∧ u.2.2.2.2.2.2 = wc) (fun u => rchK L bs k 0 + 1 - u.2.2.2.2.1.toNatClampNeg) _ ⟨1, by omega, by omega, rfl, rfl, rfl, rfl, rfl, hs, rfl⟩ ?_
  rintro K ⟨a1, a2, a3, a4, a5, w1, w2⟩ ⟨a, ha1, ha2, e1, e2, e3, e4, e5, hs1, e8⟩ ih
  dsimp only at e1 e2 e3 e4 e5 hs1 e8 ih ⊢
  subst e1; subst e2; subst e3; subst e4; subst e5; subst e8
  have ee : iI (a : Int) + 1 = iI ((a + 1 : Nat) : Int) := by simp only [li_0, li_1, li_2, li_3, li_4, li_5, li_6, li_7, li_8, li_9, li_10, li_11, li_12, li_13, li_14, li_15, li_16, li_20, li_24, li_25, li_26, li_31, li_40, li_41, li_100, li_169, li_600, li_1000, li_10000, li_100000, lm_1, lm_2, lm_3, lm_4, lm_5, lm_6, lm_600, lm_10000, lm_12, iI_add, iI_sub, iI_mul, iI_neg]; rfl
  unfold k_X1_sweep_49
  rw [iI_lt (by constructor <;> omega) (by constructor <;> omega)]
  refine ⟨fun h => ?_, fun h => ?_⟩
  · have : a - 1 = rchK L bs k 0 := by omega
    rw [this] at hs1
    exact hK w1 hs1
  · have hbd := loopA_bd (L := L) (bs := bs) (k := k) (rq := rchK L bs k 1) l1 hb (a - 1) (by omega)
    refine s_sw59 (N := N + 12 * (a - 1)) hL hv hc hk ha1 (by omega) (by omega) hbd hs1 (fun ws' hs' => ?_)
    rw [ee]
    refine ih _ ⟨a + 1, by omega, by omega, rfl, rfl, rfl, rfl, rfl, ?_, rfl⟩ ?_
    · dsimp only
      obtain ⟨c, rfl⟩ : ∃ c, a = c + 1 := ⟨a - 1, by omega⟩
      exact hs'
    · dsimp only
      rw [tnN (by omega), tnN (by omega)]
      omega
theorem s_sweep {L : Int} {bs : List Bx} (hL : 4 ≤ L ∧ L ≤ 12) (hv : Val L bs) {wc : Wd} (hc : CR L bs wc) {ws : Wd} {Q : Wd → Wd → Prop} (hq : ∀ (ws' : Wd) (z : Int × Int × Int), SR ws' (if bs.length = 6 then (0, 0, z) else sweepS L bs (0, 0, z)) → Q ws' wc) : k_X1_sweep ws wc Q := by
  have hlen := Val_len hv
  unfold k_X1_sweep
  obtain ⟨z2, h2, -⟩ := iI_ex (ws 2 0)
  obtain ⟨z3, h3, -⟩ := iI_ex (ws 3 0)
  obtain ⟨z4, h4, -⟩ := iI_ex (ws 4 0)
  have hs0 : SR (up2 (up2 ws 0 0 0) 1 0 0) (0, 0, z2, z3, z4) := by
    refine ⟨?_, ?_, ?_, ?_, ?_⟩
    · rw [up2_ne (by decide), up2_at, if_pos rfl]; rfl
    · rw [up2_at, if_pos rfl]; rfl
    · rw [up2_ne (by decide), up2_ne (by decide), h2]
    · rw [up2_ne (by decide), up2_ne (by decide), h3]
    · rw [up2_ne (by decide), up2_ne (by decide), h4]
  refine s_isFull hlen hc.2.1 (fun hf => ⟨fun _ => ?_, fun h => absurd rfl h⟩) (fun hf => ⟨fun h => absurd h (by decide), fun _ => ?_⟩)
  · unfold k_X0_corners
    rw [hc.2.1]
    have ec : (1 : Int32) + 5 * iI (bs.length : Int) = iI ((5 * bs.length + 1 : Nat) : Int) := by simp only [li_0, li_1, li_2, li_3, li_4, li_5, li_6, li_7, li_8, li_9, li_10, li_11, li_12, li_13, li_14, li_15, li_16, li_20, li_24, li_25, li_26, li_31, li_40, li_41, li_100, li_169, li_600, li_1000, li_10000, li_100000, lm_1, lm_2, lm_3, lm_4, lm_5, lm_6, lm_600, lm_10000, lm_12, iI_add, iI_sub, iI_mul, iI_neg]; congr 1; omega
    rw [ec]
    have hq2 := fun ws' => hq ws' (z2, z3, z4)
    rw [if_neg (show ¬ bs.length = 6 by omega)] at hq2
    refine lpf_run (fun u => ∃ k : Nat, k ≤ 5 * bs.length + 1 ∧ u.1 = iI ((5 * bs.length + 1 : Nat) : Int) ∧ u.2.1 = iI k ∧ SR u.2.2.1 (loopK L bs k (0, 0, z2, z3, z4)) ∧ u.2.2.2 = wc) (fun u => 5 * bs.length + 1 - u.2.1.toNatClampNeg) _ ⟨0, by omega, rfl, rfl, hs0, rfl⟩ ?_
    rintro K ⟨a1, a2, w1, w2⟩ ⟨k, hk, e1, e2, hs1, e4⟩ ih
    dsimp only at e1 e2 hs1 e4 ih ⊢
    subst e1; subst e2; subst e4
    have ee : iI (k : Int) + 1 = iI ((k + 1 : Nat) : Int) := by simp only [li_0, li_1, li_2, li_3, li_4, li_5, li_6, li_7, li_8, li_9, li_10, li_11, li_12, li_13, li_14, li_15, li_16, li_20, li_24, li_25, li_26, li_31, li_40, li_41, li_100, li_169, li_600, li_1000, li_10000, li_100000, lm_1, lm_2, lm_3, lm_4, lm_5, lm_6, lm_600, lm_10000, lm_12, iI_add, iI_sub, iI_mul, iI_neg]; rfl
    unfold k_X1_sweep_25
    rw [iI_le (by constructor <;> omega) (by constructor <;> omega)]
    refine ⟨fun h => ?_, fun h => ?_⟩
    · have : k = 5 * bs.length + 1 := by omega
      subst this
      exact hq2 w1 hs1
    · have hbd := loopK_bd (L := L) (bs := bs) (s := (0, 0, z2, z3, z4)) (N := 0) (by unfold bdS; dsimp only; omega) k
      refine s_reach hL hv hc (by omega) (al := 0) (by decide) ?_
      refine s_reach hL hv hc (by omega) (al := 1) (by decide) ?_
      refine s_sw49 (N := 0 + 144 * k) hL hv hc (by omega) (by omega) hbd hs1 (fun ws' hs' => ?_)
      rw [ee]
      refine ih _ ⟨k + 1, by omega, rfl, rfl, hs', rfl⟩ ?_
      dsimp only
      rw [tnN (by omega), tnN (by omega)]
      omega
  · have := hq (up2 (up2 ws 0 0 0) 1 0 0) (z2, z3, z4)
    rw [if_pos hf] at this
    exact this hs0
