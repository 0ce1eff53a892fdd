/-! two boxes, one behind the other -/
def bhd (L : Int) (bs : List Bx) (k : Nat) (a b : Int) : Int := if bs.length + 1 = 6 then 0 else (sweepS L ((k, a, b) :: bs) (0, 0, 0, 0, 0)).2.1
def tS (L : Int) (bs : List Bx) (k : Nat) (a b : Int) (m : Int) : Int := if whyN L bs k a b = 0 then max m (a * b + bhd L bs k a b) else m
def tB (L : Int) (bs : List Bx) (k a : Nat) : Nat → Int → Int
  | 0, m => m
  | n + 1, m => tS L bs k a ((n + 1 : Nat) : Int) (tB L bs k a n m)
def tA (L : Int) (bs : List Bx) (k rq : Nat) : Nat → Int → Int
  | 0, m => m
  | n + 1, m => tB L bs k (n + 1) rq (tA L bs k rq n m)
def tK (L : Int) (bs : List Bx) : Nat → Int → Int
  | 0, m => m
  | n + 1, m => tA L bs n (rchK L bs n 1) (rchK L bs n 0) (tK L bs n m)
theorem bhd_bd {L : Int} {bs : List Bx} (hlen : bs.length < 6) (k : Nat) (a b : Int) : 0 ≤ bhd L bs k a b ∧ bhd L bs k a b ≤ 144 := by
  unfold bhd
  split
  · omega
  · have := sweep_bd (L := L) (bs := (k, a, b) :: bs) (by simp only [List.length_cons]; omega) (0, 0, 0)
    unfold bdS at this
    omega
def R2 (x y : Int) : Prop := ((x = 0 ∧ y = -6) ∨ (x = y ∧ 0 < x)) ∧ x ≤ 288
theorem tS_R2 {L : Int} {bs : List Bx} (hlen : bs.length < 6) {k : Nat} {a b x y : Int} (ha : 1 ≤ a ∧ a ≤ 12) (hb : 1 ≤ b ∧ b ≤ 12) (h : R2 x y) : R2 (tS L bs k a b x) (tS L bs k a b y) := by
  have := mul_bd ha hb
  have := bhd_bd (L := L) hlen k a b
  unfold R2 at *
  unfold tS
  split <;> omega
theorem tB_R2 {L : Int} {bs : List Bx} (hlen : bs.length < 6) {k a : Nat} (ha : 1 ≤ a ∧ a ≤ 12) {x y : Int} (h : R2 x y) : ∀ n, n ≤ 12 → R2 (tB L bs k a n x) (tB L bs k a n y)
  | 0, _ => h
  | n + 1, hn => tS_R2 hlen (by omega) (by omega) (tB_R2 hlen ha h n (by omega))
theorem tA_R2 {L : Int} {bs : List Bx} (hlen : bs.length < 6) {k rq : Nat} (hrq : rq ≤ 12) {x y : Int} (h : R2 x y) : ∀ n, n ≤ 12 → R2 (tA L bs k rq n x) (tA L bs k rq n y)
  | 0, _ => h
  | n + 1, hn => tB_R2 hlen (by omega) (tA_R2 hlen hrq h n (by omega)) rq hrq
theorem tK_R2 {L : Int} {bs : List Bx} (hlen : bs.length < 6) {x y : Int} (h : R2 x y) : ∀ n, R2 (tK L bs n x) (tK L bs n y)
  | 0 => h
  | n + 1 => tA_R2 hlen (rch_le _) (tK_R2 hlen h n) _ (rch_le _)
theorem R2_0 : R2 0 (-6) := by unfold R2; omega
theorem s_sizeBehind {L : Int} {bs : List Bx} (hL : 4 ≤ L ∧ L ≤ 12) (hv : Val L bs) (hlen : bs.length < 6) {wc ws : Wd} (hc : CR L bs wc) {k a b : Nat} (hk : k < 5 * bs.length + 1) (ha : 1 ≤ a) (hb : 1 ≤ b) (hw : whyN L bs k a b = 0) {Q : Int32 → Wd → Wd → Prop} (hq : ∀ ws' wc' : Wd, CR L bs wc' → Q (iI (bhd L bs k a b)) ws' wc') : k_X1_sizeBehind (iI k) (iI a) (iI b) ws wc Q := by
  have hv2 := why_val hL hv hlen hk ha hb hw
  unfold k_X1_sizeBehind
  refine s_addBox hL hv2 hc (fun w1 h1 => ?_)
  refine s_sweep hL hv2 h1 (fun ws' z hs => ?_)
  refine s_dropBox ⟨by omega, hL.2⟩ hv2 h1 (fun w2 h2 => ?_)
  have e : ws' 1 0 = iI (bhd L bs k a b) := by
    rw [hs.2.1]
    unfold bhd
    simp only [List.length_cons]
    split
    · rfl
    · rw [(sweep_RS (L := L) (bs := (k, (a : Int), (b : Int)) :: bs) z (0, 0, 0)).2.1]
  rw [e]
  exact hq ws' w2 h2
theorem s_bt56 {L : Int} {bs : List Bx} (hL : 4 ≤ L ∧ L ≤ 12) (hv : Val L bs) (hlen : bs.length < 6) {wc ws : Wd} (hc : CR L bs wc) {k a : Nat} (hk : k < 5 * bs.length + 1) (ha : 1 ≤ a) (har : a ≤ rchK L bs k 0) {m : Int} (hm : 0 ≤ m ∧ m ≤ 288) {nc rp : Int32} {K19 : (Int32 × Int32 × Int32 × Wd × Wd) → Prop} {K46 : (Int32 × Int32 × Int32 × Int32 × Int32 × Int32 × Wd × Wd) → Prop} {Q : Int32 → Wd → Wd → Prop}
    (hK : ∀ ws' wc' : Wd, CR L bs wc' → 0 ≤ tB L bs k a (rchK L bs k 1) m ∧ tB L bs k a (rchK L bs k 1) m ≤ 288 → K46 (iI (tB L bs k a (rchK L bs k 1) m), nc, iI k, rp, iI (rchK L bs k 1), iI a + 1, ws', wc')) :
    ∃ n : Nat, lpf (fun (K : (Int32 × Int32 × Int32 × Int32 × Int32 × Int32 × Int32 × Wd × Wd) → Prop) (u : Int32 × Int32 × Int32 × Int32 × Int32 × Int32 × Int32 × Wd × Wd) => k_X1_bestTwo_56 K19 K46 K Q u.1 u.2.1 u.2.2.1 u.2.2.2.1 u.2.2.2.2.1 u.2.2.2.2.2.1 u.2.2.2.2.2.2.1 u.2.2.2.2.2.2.2.1 u.2.2.2.2.2.2.2.2) n (iI m, nc, iI k, rp, iI (rchK L bs k 1), iI a, 1, ws, wc) := by
  have l0 := rch_le (pcB L bs k 0)
  have l1 := rch_le (pcB L bs k 1)
  change rchK L bs k 0 ≤ 12 at l0
  change rchK L bs k 1 ≤ 12 at l1
  refine lpf_run (fun u => ∃ b : Nat, 1 ≤ b ∧ b ≤ rchK L bs k 1 + 1 ∧ u.1 = iI (tB L bs k a (b - 1) m) ∧ (0 ≤ tB L bs k a (b - 1) m ∧ tB L bs k a (b - 1) m ≤ 288) ∧ u.2.1 = nc ∧ u.2.2.1 = iI k ∧ u.2.2.2.1 = rp ∧ u.2.2.2.2.1 = iI (rchK L bs k 1) ∧ u.2.2.2.2.2.1 = iI a ∧ u.2.2.2.2.2.2.1 = iI b ∧ CR L bs u.2.2.2.2.2.2.2.2) (fun u => rchK L bs k 1 + 1 - u.2.2.2.2.2.2.1.toNatClampNeg) _ ⟨1, by omega, by omega, rfl, hm, rfl, rfl, rfl, rfl, rfl, rfl, hc⟩ ?_
  rintro K ⟨a0, a1, a2, a3, a4, a5, a6, w1, w2⟩ ⟨b, hb1, hb2, e0, hbd, e1, e2, e3, e4, e5, e6, hc2⟩ ih
  dsimp only at e0 e1 e2 e3 e4 e5 e6 hc2 ih ⊢
  subst e0; subst e1; subst e2; subst e3; subst e4; subst e5; subst e6
  have ee : iI (b : Int) + 1 = iI ((b + 1 : Nat) : Int) := by simp only [li_0, li_1, li_2, li_3, li_4, li_5, li_6, li_7, li_8, li_9, li_10, li_11, li_12, li_13, li_14, li_15, li_16, li_20, li_24, li_25, li_26, li_31, li_40, li_41, li_100, li_169, li_600, li_1000, li_10000, li_100000, lm_1, lm_2, lm_3, lm_4, lm_5, lm_6, lm_600, lm_10000, lm_12, iI_add, iI_sub, iI_mul, iI_neg]; rfl
  unfold k_X1_bestTwo_56
  rw [iI_lt (by constructor <;> omega) (by constructor <;> omega)]
  refine ⟨fun h => ?_, fun h => ?_⟩
  · have : b - 1 = rchK L bs k 1 := by omega
    rw [this] at hbd ⊢
    exact hK w1 w2 hc2 hbd
  · have hbr : b ≤ rchK L bs k 1 := by omega
    have hwr := whyW_rng L bs k a b
    have hstep : tB L bs k a b m = tS L bs k a b (tB L bs k a (b - 1) m) := by
      obtain ⟨c, rfl⟩ : ∃ c, b = c + 1 := ⟨b - 1, by omega⟩
      rfl
    have hmul := mul_bd (a := a) (b := b) (by omega) (by omega)
    have hbh := bhd_bd (L := L) hlen k a b
    have next : ∀ (x : Int32) (ws' wc' : Wd), x = iI (tB L bs k a b m) → (0 ≤ tB L bs k a b m ∧ tB L bs k a b m ≤ 288) → CR L bs wc' → K (x, a1, iI k, a3, iI (rchK L bs k 1), iI a, iI b + 1, ws', wc') := fun x ws' wc' hx hbd' hc' => by
      rw [ee, hx]
      refine ih _ ⟨b + 1, by omega, by omega, ?_, ?_, rfl, rfl, rfl, rfl, rfl, rfl, hc'⟩ ?_
      · dsimp only
        rw [show b + 1 - 1 = b by omega]
      · rw [show b + 1 - 1 = b by omega]
        exact hbd'
      · dsimp only
        rw [tnN (by omega), tnN (by omega)]
        omega
    refine s_reasonWithin hL hv hc2 hk ha hb1 har hbr ?_
    rw [li_0, iI_eq (by constructor <;> omega) (by constructor <;> omega)]
    unfold tS at hstep
    rw [whyN_in har hbr] at hstep
    refine ⟨fun h2 => ?_, fun h2 => ?_⟩
    · rw [if_pos h2] at hstep
      refine s_sizeBehind hL hv hlen hc2 hk ha hb1 (by rw [whyN_in har hbr]; exact h2) (fun ws' wc' hc' => ?_)
      unfold k_X1_bestTwo_101
      rw [iI_mul, iI_add, iI_max _ _ (by constructor <;> omega) (by constructor <;> omega), ← hstep]
      exact next _ ws' wc' rfl (by omega) hc'
    · unfold k_X1_bestTwo_101
      rw [if_neg h2] at hstep
      rw [← hstep]
      exact next _ w1 w2 rfl (by omega) hc2
theorem s_bt46 {L : Int} {bs : List Bx} (hL : 4 ≤ L ∧ L ≤ 12) (hv : Val L bs) (hlen : bs.length < 6) {wc ws : Wd} (hc : CR L bs wc) {k : Nat} (hk : k < 5 * bs.length + 1) {m : Int} (hm : 0 ≤ m ∧ m ≤ 288) {nc : Int32} {K19 : (Int32 × Int32 × Int32 × Wd × Wd) → Prop} {Q : Int32 → Wd → Wd → Prop}
    (hK : ∀ ws' wc' : Wd, CR L bs wc' → 0 ≤ tA L bs k (rchK L bs k 1) (rchK L bs k 0) m ∧ tA L bs k (rchK L bs k 1) (rchK L bs k 0) m ≤ 288 → K19 (iI (tA L bs k (rchK L bs k 1) (rchK L bs k 0) m), nc, iI k + 1, ws', wc')) :
    ∃ n : Nat, lpf (fun (K : (Int32 × Int32 × Int32 × Int32 × Int32 × Int32 × Wd × Wd) → Prop) (u : Int32 × Int32 × Int32 × Int32 × Int32 × Int32 × Wd × Wd) => k_X1_bestTwo_46 K19 K Q u.1 u.2.1 u.2.2.1 u.2.2.2.1 u.2.2.2.2.1 u.2.2.2.2.2.1 u.2.2.2.2.2.2.1 u.2.2.2.2.2.2.2) n (iI m, nc, iI k, iI (rchK L bs k 0), iI (rchK L bs k 1), 1, ws, wc) := by
  have l0 := rch_le (pcB L bs k 0)
  have l1 := rch_le (pcB L bs k 1)
  change rchK L bs k 0 ≤ 12 at l0
  change rchK L bs k 1 ≤ 12 at l1
  refine lpf_run (fun u => ∃ a : Nat, 1 ≤ a ∧ a ≤ rchK L bs k 0 + 1 ∧ u.1 = iI (tA L bs k (rchK L bs k 1) (a - 1) m) ∧ (0 ≤ tA L bs k (rchK L bs k 1) (a - 1) m ∧ tA L bs k (rchK L bs k 1) (a - 1) m ≤ 288) ∧ u.2.1 = nc ∧ u.2.2.1 = iI k ∧ u.2.2.2.1 = iI (rchK L bs k 0) ∧ u.2.2.2.2.1 = iI (rchK L bs k 1) ∧ u.2.2.2.2.2.1 = iI a ∧ CR L bs u.2.2.2.2.2.2.2) (fun u => rchK L bs k 0 + 1 - u.2.2.2.2.2.1.toNatClampNeg) _ ⟨1, by omega, by omega, rfl, hm, rfl, rfl, rfl, rfl, rfl, hc⟩ ?_
  rintro K ⟨a0, a1, a2, a3, a4, a5, w1, w2⟩ ⟨a, ha1, ha2, e0, hbd, e1, e2, e3, e4, e5, hc2⟩ ih
  dsimp only at e0 e1 e2 e3 e4 e5 hc2 ih ⊢
  subst e0; subst e1; subst e2; subst e3; subst e4; subst e5
  have ee : iI (a : Int) + 1 = iI ((a + 1 : Nat) : Int) := by simp only [li_0, li_1, li_2, li_3, li_4, li_5, li_6, li_7, li_8, li_9, li_10, li_11, li_12, li_13, li_14, li_15, li_16, li_20, li_24, li_25, li_26, li_31, li_40, li_41, li_100, li_169, li_600, li_1000, li_10000, li_100000, lm_1, lm_2, lm_3, lm_4, lm_5, lm_6, lm_600, lm_10000, lm_12, iI_add, iI_sub, iI_mul, iI_neg]; rfl
  unfold k_X1_bestTwo_46
  rw [iI_lt (by constructor <;> omega) (by constructor <;> omega)]
  refine ⟨fun h => ?_, fun h => ?_⟩
  · have : a - 1 = rchK L bs k 0 := by omega
    rw [this] at hbd ⊢
    exact hK w1 w2 hc2 hbd
  · refine s_bt56 hL hv hlen hc2 hk ha1 (by omega) hbd (fun ws' wc' hc' hbd' => ?_)
    rw [ee]
    obtain ⟨c, rfl⟩ : ∃ c, a = c + 1 := ⟨a - 1, by omega⟩
    refine ih _ ⟨c + 1 + 1, by omega, by omega, rfl, hbd', rfl, rfl, rfl, rfl, rfl, hc'⟩ ?_
    dsimp only
    rw [tnN (by omega), tnN (by omega)]
    omega
theorem s_bestTwo {L : Int} {bs : List Bx} (hL : 4 ≤ L ∧ L ≤ 12) (hv : Val L bs) {wc ws : Wd} (hc : CR L bs wc) {Q : Int32 → Wd → Wd → Prop} (hq : ∀ ws' wc' : Wd, CR L bs wc' → Q (iI (if bs.length = 6 then 0 else tK L bs (5 * bs.length + 1) 0)) ws' wc') : k_X1_bestTwo ws wc Q := by
  have hlen := Val_len hv
  unfold k_X1_bestTwo
  refine s_isFull hlen hc.2.1 (fun hf => ⟨fun _ => ?_, fun h => absurd rfl h⟩) (fun hf => ⟨fun h => absurd h (by decide), fun _ => ?_⟩)
  · unfold k_X0_corners
    rw [hc.2.1]
    have ec : (1 : Int32) + 5 * iI (bs.length : Int) = iI ((5 * bs.length + 1 : Nat) : Int) := by simp only [li_0, li_1, li_2, li_3, li_4, li_5, li_6, li_7, li_8, li_9, li_10, li_11, li_12, li_13, li_14, li_15, li_16, li_20, li_24, li_25, li_26, li_31, li_40, li_41, li_100, li_169, li_600, li_1000, li_10000, li_100000, lm_1, lm_2, lm_3, lm_4, lm_5, lm_6, lm_600, lm_10000, lm_12, iI_add, iI_sub, iI_mul, iI_neg]; congr 1; omega
    rw [ec]
    simp only [if_neg (show ¬ bs.length = 6 by omega)] at hq
    refine lpf_run (fun u => ∃ k : Nat, k ≤ 5 * bs.length + 1 ∧ u.1 = iI (tK L bs k 0) ∧ (0 ≤ tK L bs k 0 ∧ tK L bs k 0 ≤ 288) ∧ u.2.1 = iI ((5 * bs.length + 1 : Nat) : Int) ∧ u.2.2.1 = iI k ∧ CR L bs u.2.2.2.2) (fun u => 5 * bs.length + 1 - u.2.2.1.toNatClampNeg) _ ⟨0, by omega, rfl, ⟨Int.le_refl 0, show (0 : Int) ≤ 288 by decide⟩, rfl, rfl, hc⟩ ?_
    rintro K ⟨a0, a1, a2, w1, w2⟩ ⟨k, hk, e0, hbd, e1, e2, hc2⟩ ih
    dsimp only at e0 e1 e2 hc2 ih ⊢
    subst e0; subst e1; subst e2
    have ee : iI (k : Int) + 1 = iI ((k + 1 : Nat) : Int) := by simp only [li_0, li_1, li_2, li_3, li_4, li_5, li_6, li_7, li_8, li_9, li_10, li_11, li_12, li_13, li_14, li_15, li_16, li_20, li_24, li_25, li_26, li_31, li_40, li_41, li_100, li_169, li_600, li_1000, li_10000, li_100000, lm_1, lm_2, lm_3, lm_4, lm_5, lm_6, lm_600, lm_10000, lm_12, iI_add, iI_sub, iI_mul, iI_neg]; rfl
    unfold k_X1_bestTwo_19
    rw [iI_le (by constructor <;> omega) (by constructor <;> omega)]
    refine ⟨fun h => ?_, fun h => ?_⟩
    · have : k = 5 * bs.length + 1 := by omega
      subst this
      exact hq w1 w2 hc2
    · refine s_reach hL hv hc2 (by omega) (al := 0) (by decide) ?_
      refine s_reach hL hv hc2 (by omega) (al := 1) (by decide) ?_
      refine s_bt46 hL hv hf hc2 (by omega) hbd (fun ws' wc' hc' hbd' => ?_)
      rw [ee]
      refine ih _ ⟨k + 1, by omega, rfl, hbd', rfl, rfl, hc'⟩ ?_
      dsimp only
      rw [tnN (by omega), tnN (by omega)]
      omega
  · have := hq ws wc hc
    rw [if_pos hf] at this
    exact this
/-! the model -/
def M0 (L : Int) (bs : List Bx) (w0 w : Wd) : Prop := (∀ r, r ≤ 2 → w r = w0 r) ∧ ML L bs w
theorem s_sizeWith {L : Int} {bs : List Bx} (hL : 4 ≤ L ∧ L ≤ 12) (hv : Val L bs) (hlen : bs.length < 6) {w0 w : Wd} (hr : MRow (w0 0) L bs) (hc : M0 L bs w0 w) {k a b : Nat} (hk : k < 5 * bs.length + 1) (ha : 1 ≤ a) (hb : 1 ≤ b) (hw : whyN L bs k a b = 0) {Q : Int32 → Wd → Prop} (hq : ∀ w' : Wd, M0 L bs w0 w' → Q (iI ((a : Int) * b + bhd L bs k a b)) w') : k_X4_sizeWith (iI k) (iI a) (iI b) w Q := by
  have hv2 := why_val hL hv hlen hk ha hb hw
  obtain ⟨c0, c1⟩ := hc
  unfold k_X4_sizeWith
  refine s_push hL hv2 c1 (fun w1 g1 m1 => ⟨inN (n := 1) (by decide) (by decide), ?_⟩)
  have o1 : ((1 : Int32)).toNatClampNeg = 1 := rfl
  have e : w1 0 1 + 1 = iI (((k, (a : Int), (b : Int)) :: bs).length : Int) := by
    rw [g1 0 (by omega), c0 0 (by omega), hr.2.1]
    simp only [li_0, li_1, li_2, li_3, li_4, li_5, li_6, li_7, li_8, li_9, li_10, li_11, li_12, li_13, li_14, li_15, li_16, li_20, li_24, li_25, li_26, li_31, li_40, li_41, li_100, li_169, li_600, li_1000, li_10000, li_100000, lm_1, lm_2, lm_3, lm_4, lm_5, lm_6, lm_600, lm_10000, lm_12, iI_add, iI_sub, iI_mul, iI_neg]
    rfl
  rw [o1, e]
  refine s_layWays hL hv2 m1 (by rw [g1 0 (by omega), c0 0 (by omega)]; exact hr.1) (fun w2 g2 m2 => ?_)
  refine s_pop hL hv2 (ML_same g2 m1) (fun w3 g3 m3 => ?_)
  have e17 : w3 17 0 = iI (bhd L bs k a b) := by
    rw [g3 17 (by omega), m2.2.1]
    unfold bhd
    simp only [List.length_cons]
    split
    · rfl
    · rw [(sweep_RS (L := L) (bs := (k, (a : Int), (b : Int)) :: bs) (-6, -6, -6) (0, 0, 0)).2.1]
  rw [e17, iI_mul, iI_add]
  refine hq w3 ⟨fun r hr2 => ?_, m3⟩
  rw [g3 r (by omega), g2 r (by omega), g1 r (by omega), c0 r hr2]
theorem s_tw63 {L : Int} {bs : List Bx} (hL : 4 ≤ L ∧ L ≤ 12) (hv : Val L bs) (hlen : bs.length < 6) {w0 w : Wd} (hr : MRow (w0 0) L bs) (hc : M0 L bs w0 w) {k a : Nat} (hk : k < 5 * bs.length + 1) (ha : 1 ≤ a) (har : a ≤ rchK L bs k 0) {m : Int} (hm : -6 ≤ m ∧ m ≤ 288) {nc rp : Int32} {K29 : (Int32 × Int32 × Int32 × Wd) → Prop} {K53 : (Int32 × Int32 × Int32 × Int32 × Int32 × Int32 × Wd) → Prop} {Q : Int32 → Wd → Prop}
    (hK : ∀ w' : Wd, M0 L bs w0 w' → -6 ≤ tB L bs k a (rchK L bs k 1) m ∧ tB L bs k a (rchK L bs k 1) m ≤ 288 → K53 (iI (tB L bs k a (rchK L bs k 1) m), nc, iI k, rp, iI (rchK L bs k 1), iI a + 1, w')) :
    ∃ n : Nat, lpf (fun (K : (Int32 × Int32 × Int32 × Int32 × Int32 × Int32 × Int32 × Wd) → Prop) (u : Int32 × Int32 × Int32 × Int32 × Int32 × Int32 × Int32 × Wd) => k_X4_two_63 K29 K53 K Q u.1 u.2.1 u.2.2.1 u.2.2.2.1 u.2.2.2.2.1 u.2.2.2.2.2.1 u.2.2.2.2.2.2.1 u.2.2.2.2.2.2.2) n (iI m, nc, iI k, rp, iI (rchK L bs k 1), iI a, 1, w) := by
  have l0 := rch_le (pcB L bs k 0)
  have l1 := rch_le (pcB L bs k 1)
  change rchK L bs k 0 ≤ 12 at l0
  change rchK L bs k 1 ≤ 12 at l1
  refine lpf_run (fun u => ∃ b : Nat, 1 ≤ b ∧ b ≤ rchK L bs k 1 + 1 ∧ u.1 = iI (tB L bs k a (b - 1) m) ∧ (-6 ≤ tB L bs k a (b - 1) m ∧ tB L bs k a (b - 1) m ≤ 288) ∧ u.2.1 = nc ∧ u.2.2.1 = iI k ∧ u.2.2.2.1 = rp ∧ u.2.2.2.2.1 = iI (rchK L bs k 1) ∧ u.2.2.2.2.2.1 = iI a ∧ u.2.2.2.2.2.2.1 = iI b ∧ M0 L bs w0 u.2.2.2.2.2.2.2) (fun u => rchK L bs k 1 + 1 - u.2.2.2.2.2.2.1.toNatClampNeg) _ ⟨1, by omega, by omega, rfl, hm, rfl, rfl, rfl, rfl, rfl, rfl, hc⟩ ?_
  rintro K ⟨a0, a1, a2, a3, a4, a5, a6, w1⟩ ⟨b, hb1, hb2, e0, hbd, e1, e2, e3, e4, e5, e6, hc2⟩ ih
  dsimp only at e0 e1 e2 e3 e4 e5 e6 hc2 ih ⊢
  subst e0; subst e1; subst e2; subst e3; subst e4; subst e5; subst e6
  have ee : iI (b : Int) + 1 = iI ((b + 1 : Nat) : Int) := by simp only [li_0, li_1, li_2, li_3, li_4, li_5, li_6, li_7, li_8, li_9, li_10, li_11, li_12, li_13, li_14, li_15, li_16, li_20, li_24, li_25, li_26, li_31, li_40, li_41, li_100, li_169, li_600, li_1000, li_10000, li_100000, lm_1, lm_2, lm_3, lm_4, lm_5, lm_6, lm_600, lm_10000, lm_12, iI_add, iI_sub, iI_mul, iI_neg]; rfl
  unfold k_X4_two_63
  rw [iI_lt (by constructor <;> omega) (by constructor <;> omega)]
  refine ⟨fun h => ?_, fun h => ?_⟩
  · have : b - 1 = rchK L bs k 1 := by omega
    rw [this] at hbd ⊢
    exact hK w1 hc2 hbd
  · have hwr := whyN_rng L bs k a b
    have hstep : tB L bs k a b m = tS L bs k a b (tB L bs k a (b - 1) m) := by
      obtain ⟨c, rfl⟩ : ∃ c, b = c + 1 := ⟨b - 1, by omega⟩
      rfl
    have hmul := mul_bd (a := a) (b := b) (by omega) (by omega)
    have hbh := bhd_bd (L := L) hlen k a b
    have next : ∀ (x : Int32) (w' : Wd), x = iI (tB L bs k a b m) → (-6 ≤ tB L bs k a b m ∧ tB L bs k a b m ≤ 288) → M0 L bs w0 w' → K (x, a1, iI k, a3, iI (rchK L bs k 1), iI a, iI b + 1, w') := fun x w' hx hbd' hc' => by
      rw [ee, hx]
      refine ih _ ⟨b + 1, by omega, by omega, ?_, ?_, rfl, rfl, rfl, rfl, rfl, rfl, hc'⟩ ?_
      · dsimp only
        rw [show b + 1 - 1 = b by omega]
      · rw [show b + 1 - 1 = b by omega]
        exact hbd'
      · dsimp only
        rw [tnN (by omega), tnN (by omega)]
        omega
    refine s_whyNot hL hv hc2.2 (by rw [hc2.1 0 (by omega)]; exact hr.1) hk (by omega) (by omega) ?_
    rw [li_0, iI_eq (by constructor <;> omega) (by constructor <;> omega)]
    unfold tS at hstep
    refine ⟨fun h2 => ?_, fun h2 => ?_⟩
    · unfold k_X4_two_106
      rw [if_neg h2] at hstep
      rw [← hstep]
      exact next _ w1 rfl (by omega) hc2
    · rw [if_pos h2] at hstep
      refine s_sizeWith hL hv hlen hr hc2 hk ha hb1 h2 (fun w' hc' => ?_)
      rw [iI_le (by constructor <;> omega) (by constructor <;> omega)]
      refine ⟨fun h3 => ?_, fun h3 => ?_⟩
      · unfold k_X4_two_105 k_X4_two_106
        exact next _ w' (by congr 1; omega) (by omega) hc'
      · unfold k_X4_two_105 k_X4_two_106
        exact next _ w' (by congr 1; omega) (by omega) hc'
theorem s_tw53 {L : Int} {bs : List Bx} (hL : 4 ≤ L ∧ L ≤ 12) (hv : Val L bs) (hlen : bs.length < 6) {w0 w : Wd} (hr : MRow (w0 0) L bs) (hc : M0 L bs w0 w) {k : Nat} (hk : k < 5 * bs.length + 1) {m : Int} (hm : -6 ≤ m ∧ m ≤ 288) {nc : Int32} {K29 : (Int32 × Int32 × Int32 × Wd) → Prop} {Q : Int32 → Wd → Prop}
    (hK : ∀ w' : Wd, M0 L bs w0 w' → -6 ≤ tA L bs k (rchK L bs k 1) (rchK L bs k 0) m ∧ tA L bs k (rchK L bs k 1) (rchK L bs k 0) m ≤ 288 → K29 (iI (tA L bs k (rchK L bs k 1) (rchK L bs k 0) m), nc, iI k + 1, w')) :
    ∃ n : Nat, lpf (fun (K : (Int32 × Int32 × Int32 × Int32 × Int32 × Int32 × Wd) → Prop) (u : Int32 × Int32 × Int32 × Int32 × Int32 × Int32 × Wd) => k_X4_two_53 K29 K Q u.1 u.2.1 u.2.2.1 u.2.2.2.1 u.2.2.2.2.1 u.2.2.2.2.2.1 u.2.2.2.2.2.2) n (iI m, nc, iI k, iI (rchK L bs k 0), iI (rchK L bs k 1), 1, w) := by
  have l0 := rch_le (pcB L bs k 0)
  have l1 := rch_le (pcB L bs k 1)
  change rchK L bs k 0 ≤ 12 at l0
  change rchK L bs k 1 ≤ 12 at l1
  refine lpf_run (fun u => ∃ a : Nat, 1 ≤ a ∧ a ≤ rchK L bs k 0 + 1 ∧ u.1 = iI (tA L bs k (rchK L bs k 1) (a - 1) m) ∧ (-6 ≤ tA L bs k (rchK L bs k 1) (a - 1) m ∧ tA L bs k (rchK L bs k 1) (a - 1) m ≤ 288) ∧ u.2.1 = nc ∧ u.2.2.1 = iI k ∧ u.2.2.2.1 = iI (rchK L bs k 0) ∧ u.2.2.2.2.1 = iI (rchK L bs k 1) ∧ u.2.2.2.2.2.1 = iI a ∧ M0 L bs w0 u.2.2.2.2.2.2) (fun u => rchK L bs k 0 + 1 - u.2.2.2.2.2.1.toNatClampNeg) _ ⟨1, by omega, by omega, rfl, hm, rfl, rfl, rfl, rfl, rfl, hc⟩ ?_
  rintro K ⟨a0, a1, a2, a3, a4, a5, w1⟩ ⟨a, ha1, ha2, e0, hbd, e1, e2, e3, e4, e5, hc2⟩ ih
  dsimp only at e0 e1 e2 e3 e4 e5 hc2 ih ⊢
  subst e0; subst e1; subst e2; subst e3; subst e4; subst e5
  have ee : iI (a : Int) + 1 = iI ((a + 1 : Nat) : Int) := by simp only [li_0, li_1, li_2, li_3, li_4, li_5, li_6, li_7, li_8, li_9, li_10, li_11, li_12, li_13, li_14, li_15, li_16, li_20, li_24, li_25, li_26, li_31, li_40, li_41, li_100, li_169, li_600, li_1000, li_10000, li_100000, lm_1, lm_2, lm_3, lm_4, lm_5, lm_6, lm_600, lm_10000, lm_12, iI_add, iI_sub, iI_mul, iI_neg]; rfl
  unfold k_X4_two_53
  rw [iI_lt (by constructor <;> omega) (by constructor <;> omega)]
  refine ⟨fun h => ?_, fun h => ?_⟩
  · have : a - 1 = rchK L bs k 0 := by omega
    rw [this] at hbd ⊢
    exact hK w1 hc2 hbd
  · refine s_tw63 hL hv hlen hr hc2 hk ha1 (by omega) hbd (fun w' hc' hbd' => ?_)
    rw [ee]
    obtain ⟨c, rfl⟩ : ∃ c, a = c + 1 := ⟨a - 1, by omega⟩
    refine ih _ ⟨c + 1 + 1, by omega, by omega, rfl, hbd', rfl, rfl, rfl, rfl, rfl, hc'⟩ ?_
    dsimp only
    rw [tnN (by omega), tnN (by omega)]
    omega
theorem s_twoM {L : Int} {bs : List Bx} (hL : 4 ≤ L ∧ L ≤ 12) (hv : Val L bs) {w : Wd} (hr : MRow (w 0) L bs) {Q : Int32 → Wd → Prop} (hq : ∀ w' : Wd, (∀ r, r ≤ 2 → w' r = w r) → Q (iI (if bs.length = 6 then -6 else tK L bs (5 * bs.length + 1) (-6))) w') : k_X4_two w Q := by
  have hlen := Val_len hv
  unfold k_X4_two
  refine s_lay hL hv hr (fun w1 g1 m1 => ⟨inN (n := 1) (by decide) (by decide), ?_⟩)
  have o1 : ((1 : Int32)).toNatClampNeg = 1 := rfl
  have hM : M0 L bs w w1 := ⟨fun r h => g1 r (Or.inl h), m1⟩
  rw [o1, g1 0 (by omega), hr.2.1, li_6, iI_eq (by constructor <;> omega) (by constructor <;> omega)]
  refine ⟨fun h6 => ?_, fun h6 => ?_⟩
  · unfold k_X4_two_26
    simp only [if_neg (show ¬ bs.length = 6 by omega)] at hq
    rw [m1.2.1]
    refine lpf_run (fun u => ∃ k : Nat, k ≤ 5 * bs.length + 1 ∧ u.1 = iI (tK L bs k (-6)) ∧ (-6 ≤ tK L bs k (-6) ∧ tK L bs k (-6) ≤ 288) ∧ u.2.1 = iI (5 * bs.length + 1) ∧ u.2.2.1 = iI k ∧ M0 L bs w u.2.2.2) (fun u => 5 * bs.length + 1 - u.2.2.1.toNatClampNeg) _ ⟨0, by omega, rfl, ⟨Int.le_refl _, show (-6 : Int) ≤ 288 by decide⟩, rfl, rfl, hM⟩ ?_
    rintro K ⟨a0, a1, a2, w2⟩ ⟨k, hk, e0, hbd, e1, e2, hc2⟩ ih
    dsimp only at e0 e1 e2 hc2 ih ⊢
    subst e0; subst e1; subst e2
    have ee : iI (k : Int) + 1 = iI ((k + 1 : Nat) : Int) := by simp only [li_0, li_1, li_2, li_3, li_4, li_5, li_6, li_7, li_8, li_9, li_10, li_11, li_12, li_13, li_14, li_15, li_16, li_20, li_24, li_25, li_26, li_31, li_40, li_41, li_100, li_169, li_600, li_1000, li_10000, li_100000, lm_1, lm_2, lm_3, lm_4, lm_5, lm_6, lm_600, lm_10000, lm_12, iI_add, iI_sub, iI_mul, iI_neg]; rfl
    unfold k_X4_two_29
    rw [iI_le (by constructor <;> omega) (by constructor <;> omega)]
    refine ⟨fun h => ?_, fun h => ?_⟩
    · have : k = 5 * bs.length + 1 := by omega
      subst this
      exact hq w2 hc2.1
    · refine s_reachM hL hv hc2.2 (by omega) (al := 0) (by decide) ?_
      refine s_reachM hL hv hc2.2 (by omega) (al := 1) (by decide) ?_
      refine s_tw53 hL hv (by omega) hr hc2 (by omega) hbd (fun w' hc' hbd' => ?_)
      rw [ee]
      refine ih _ ⟨k + 1, by omega, rfl, hbd', rfl, rfl, hc'⟩ ?_
      dsimp only
      rw [tnN (by omega), tnN (by omega)]
      omega
  · have h6' : bs.length = 6 := by omega
    unfold k_X4_two_26
    simp only [if_pos h6'] at hq
    refine lpf_run (fun u => u = (iI (-6), iI 0, iI 0, w1)) (fun _ => 0) _ rfl ?_
    rintro K u rfl ih
    dsimp only
    unfold k_X4_two_29
    exact ⟨fun _ => hq w1 hM.1, fun h => absurd (by decide) h⟩
