/-! opened: ACROSS and UP -/
def cZ : Nat → Int := fun k => match k with
  | 0 => 25 | 1 => 24 | 2 => 20 | 3 => 15 | 4 => 7 | 5 => 0 | 6 => -7 | 7 => -15 | 8 => -20 | 9 => -24 | _ => -25
def sZ : Nat → Int := fun k => match k with
  | 0 => 0 | 1 => 7 | 2 => 15 | 3 => 20 | 4 => 24 | 5 => 25 | 6 => 24 | 7 => 20 | 8 => 15 | 9 => 7 | _ => 0
theorem tabC_eq : ∀ t, t < 11 → tabC t = iI (cZ t) := by decide +kernel
theorem tabS_eq : ∀ t, t < 11 → tabS t = iI (sZ t) := by decide +kernel
theorem cZ_bd : ∀ t, t < 11 → -25 ≤ cZ t ∧ cZ t ≤ 25 := by decide +kernel
theorem sZ_bd : ∀ t, t < 11 → 0 ≤ sZ t ∧ sZ t ≤ 25 := by decide +kernel
def acr (t : Nat) (p q : Int) : Int := 25 * p + cZ t * q
def upz (t : Nat) (q : Int) : Int := sZ t * q
theorem cq_bd {t : Nat} (ht : t < 11) {q : Int} (hq : 0 ≤ q) : -(25 * q) ≤ cZ t * q ∧ cZ t * q ≤ 25 * q := by
  obtain ⟨h1, h2⟩ := cZ_bd t ht
  have a := Int.mul_le_mul_of_nonneg_right h1 hq
  have b := Int.mul_le_mul_of_nonneg_right h2 hq
  omega
theorem up_bd {t : Nat} (ht : t < 11) {q : Int} (hq : 0 ≤ q) : 0 ≤ upz t q ∧ upz t q ≤ 25 * q := by
  obtain ⟨h1, h2⟩ := sZ_bd t ht
  have a := Int.mul_le_mul_of_nonneg_right h1 hq
  have b := Int.mul_le_mul_of_nonneg_right h2 hq
  unfold upz
  omega
theorem up_mono {t : Nat} (ht : t < 11) {q r : Int} (h : q ≤ r) : upz t q ≤ upz t r := Int.mul_le_mul_of_nonneg_left h (sZ_bd t ht).1
theorem acr_bd {t : Nat} (ht : t < 11) {p q : Int} (hp : 0 ≤ p) (hq : 0 ≤ q) (hs : p + q ≤ 12) : -300 ≤ acr t p q ∧ acr t p q ≤ 300 := by
  have := cq_bd ht hq
  unfold acr
  omega
theorem s_isStep {x : Int} (hx : ir x) {Q : Int32 → Prop} (h1 : 0 ≤ x → x ≤ 10 → Q 1) (h0 : ¬ (0 ≤ x ∧ x ≤ 10) → Q 0) : k_X3_isStep (iI x) Q := by
  unfold k_X3_isStep
  exact s_isWithin (l := 0) (h := 10) hx (by constructor <;> omega) (by constructor <;> omega) (fun a b => ⟨Or.inr rfl, h1 a b⟩) (fun h => ⟨Or.inl rfl, h0 h⟩)
theorem s_acrossOf {t : Nat} (ht : t < 11) {p q : Int} {Q : Int32 → Prop} (hq : Q (iI (acr t p q))) : k_X3_acrossOf (iI t) (iI p) (iI q) Q := by
  unfold k_X3_acrossOf
  refine s_isStep (by constructor <;> omega) (fun _ _ => ⟨fun h => absurd h (by decide), fun _ => ⟨inN ht (by decide), ?_⟩⟩) (fun h => absurd ⟨by omega, by omega⟩ h)
  rw [tnN (by omega), tabC_eq t ht, li_25, iI_mul, iI_mul, iI_add]
  exact hq
theorem s_upOf {t : Nat} (ht : t < 11) {q : Int} {Q : Int32 → Prop} (hq : Q (iI (upz t q))) : k_X3_upOf (iI t) (iI q) Q := by
  unfold k_X3_upOf
  refine s_isStep (by constructor <;> omega) (fun _ _ => ⟨fun h => absurd h (by decide), fun _ => ⟨inN ht (by decide), ?_⟩⟩) (fun h => absurd ⟨by omega, by omega⟩ h)
  rw [tnN (by omega), tabS_eq t ht, iI_mul]
  exact hq
theorem s_cOf {t : Nat} (ht : t < 11) {Q : Int32 → Prop} (hq : Q (iI (cZ t))) : k_X4_cOf (iI t) Q := by
  unfold k_X4_cOf
  match t, ht, hq with
  | 0, _, hq => exact ⟨fun _ => hq, fun h => absurd h (by decide), fun h => absurd h (by decide), fun h => absurd h (by decide), fun h => absurd h (by decide), fun h => absurd h (by decide), fun h => absurd h (by decide)⟩
  | 1, _, hq => exact ⟨fun h => absurd h (by decide), fun _ => hq, fun h => absurd h (by decide), fun h => absurd h (by decide), fun h => absurd h (by decide), fun h => absurd h (by decide), fun h => absurd h (by decide)⟩
  | 2, _, hq => exact ⟨fun h => absurd h (by decide), fun h => absurd h (by decide), fun _ => hq, fun h => absurd h (by decide), fun h => absurd h (by decide), fun h => absurd h (by decide), fun h => absurd h (by decide)⟩
  | 3, _, hq => exact ⟨fun h => absurd h (by decide), fun h => absurd h (by decide), fun h => absurd h (by decide), fun _ => hq, fun h => absurd h (by decide), fun h => absurd h (by decide), fun h => absurd h (by decide)⟩
  | 4, _, hq => exact ⟨fun h => absurd h (by decide), fun h => absurd h (by decide), fun h => absurd h (by decide), fun h => absurd h (by decide), fun _ => hq, fun h => absurd h (by decide), fun h => absurd h (by decide)⟩
  | 5, _, hq => exact ⟨fun h => absurd h (by decide), fun h => absurd h (by decide), fun h => absurd h (by decide), fun h => absurd h (by decide), fun h => absurd h (by decide), fun _ => hq, fun h => absurd h (by decide)⟩
  | 6, _, hq => exact ⟨fun h => absurd h (by decide), fun h => absurd h (by decide), fun h => absurd h (by decide), fun h => absurd h (by decide), fun h => absurd h (by decide), fun h => absurd h (by decide), fun _ => ⟨fun h => absurd h (by decide), fun h => absurd h (by decide), fun h => absurd h (by decide), fun h => absurd h (by decide), fun _ => hq⟩⟩
  | 7, _, hq => exact ⟨fun h => absurd h (by decide), fun h => absurd h (by decide), fun h => absurd h (by decide), fun h => absurd h (by decide), fun h => absurd h (by decide), fun h => absurd h (by decide), fun _ => ⟨fun h => absurd h (by decide), fun h => absurd h (by decide), fun h => absurd h (by decide), fun _ => hq, fun h => absurd h (by decide)⟩⟩
  | 8, _, hq => exact ⟨fun h => absurd h (by decide), fun h => absurd h (by decide), fun h => absurd h (by decide), fun h => absurd h (by decide), fun h => absurd h (by decide), fun h => absurd h (by decide), fun _ => ⟨fun h => absurd h (by decide), fun h => absurd h (by decide), fun _ => hq, fun h => absurd h (by decide), fun h => absurd h (by decide)⟩⟩
  | 9, _, hq => exact ⟨fun h => absurd h (by decide), fun h => absurd h (by decide), fun h => absurd h (by decide), fun h => absurd h (by decide), fun h => absurd h (by decide), fun h => absurd h (by decide), fun _ => ⟨fun h => absurd h (by decide), fun _ => hq, fun h => absurd h (by decide), fun h => absurd h (by decide), fun h => absurd h (by decide)⟩⟩
  | 10, _, hq => exact ⟨fun h => absurd h (by decide), fun h => absurd h (by decide), fun h => absurd h (by decide), fun h => absurd h (by decide), fun h => absurd h (by decide), fun h => absurd h (by decide), fun _ => ⟨fun _ => hq, fun h => absurd h (by decide), fun h => absurd h (by decide), fun h => absurd h (by decide), fun h => absurd h (by decide)⟩⟩
  | n + 11, h, _ => exact absurd h (by omega)
theorem s_sOf13 {n : Nat} (hn : n < 6) {Q : Int32 → Prop} (hq : Q (iI (sZ n))) : k_X4_sOf_13 Q (iI n) := by
  unfold k_X4_sOf_13
  match n, hn, hq with
  | 0, _, hq => exact ⟨fun _ => hq, fun h => absurd h (by decide), fun h => absurd h (by decide), fun h => absurd h (by decide), fun h => absurd h (by decide), fun h => absurd h (by decide)⟩
  | 1, _, hq => exact ⟨fun h => absurd h (by decide), fun _ => hq, fun h => absurd h (by decide), fun h => absurd h (by decide), fun h => absurd h (by decide), fun h => absurd h (by decide)⟩
  | 2, _, hq => exact ⟨fun h => absurd h (by decide), fun h => absurd h (by decide), fun _ => hq, fun h => absurd h (by decide), fun h => absurd h (by decide), fun h => absurd h (by decide)⟩
  | 3, _, hq => exact ⟨fun h => absurd h (by decide), fun h => absurd h (by decide), fun h => absurd h (by decide), fun _ => hq, fun h => absurd h (by decide), fun h => absurd h (by decide)⟩
  | 4, _, hq => exact ⟨fun h => absurd h (by decide), fun h => absurd h (by decide), fun h => absurd h (by decide), fun h => absurd h (by decide), fun _ => hq, fun h => absurd h (by decide)⟩
  | 5, _, hq => exact ⟨fun h => absurd h (by decide), fun h => absurd h (by decide), fun h => absurd h (by decide), fun h => absurd h (by decide), fun h => absurd h (by decide), fun _ => hq⟩
  | n + 6, h, _ => exact absurd h (by omega)
theorem sZ_sym : ∀ t, t < 11 → 5 ≤ t → sZ (10 - t) = sZ t := by decide +kernel
theorem s_sOf {t : Nat} (ht : t < 11) {Q : Int32 → Prop} (hq : Q (iI (sZ t))) : k_X4_sOf (iI t) Q := by
  unfold k_X4_sOf
  rw [li_5, iI_le (by constructor <;> omega) (by constructor <;> omega)]
  refine ⟨fun h => ?_, fun h => s_sOf13 (by omega) hq⟩
  have e : (10 : Int32) - iI (t : Int) = iI ((10 - t : Nat) : Int) := by simp only [li_0, li_1, li_2, li_3, li_4, li_5, li_6, li_7, li_8, li_9, li_10, li_11, li_12, li_13, li_14, li_15, li_16, li_20, li_24, li_25, li_26, li_31, li_40, li_41, li_100, li_169, li_600, li_1000, li_10000, li_100000, lm_1, lm_2, lm_3, lm_4, lm_5, lm_6, lm_600, lm_10000, lm_12, iI_add, iI_sub, iI_mul, iI_neg]; congr 1; omega
  rw [e]
  refine s_sOf13 (by omega) ?_
  rw [sZ_sym t ht (by omega)]
  exact hq
theorem s_acrossM {t : Nat} (ht : t < 11) {p q : Int} {Q : Int32 → Prop} (hq : Q (iI (acr t p q))) : k_X4_across (iI t) (iI p) (iI q) Q := by
  unfold k_X4_across
  refine s_cOf ht ?_
  rw [li_25, iI_mul, iI_mul, iI_add]
  exact hq
theorem s_upM {t : Nat} (ht : t < 11) {q : Int} {Q : Int32 → Prop} (hq : Q (iI (upz t q))) : k_X4_upOf (iI t) (iI q) Q := by
  unfold k_X4_upOf
  refine s_sOf ht ?_
  rw [iI_mul]
  exact hq
def mnF (g1 g2 : Nat → Int) (s : Int) : Nat → Int
  | 0 => s
  | m + 1 => min (min (mnF g1 g2 s m) (g1 m)) (g2 m)
def mxF (g1 g2 : Nat → Int) (s : Int) : Nat → Int
  | 0 => s
  | m + 1 => max (max (mxF g1 g2 s m) (g1 m)) (g2 m)
theorem mnF_s (g1 g2 : Nat → Int) (s : Int) (m : Nat) : mnF g1 g2 s (m + 1) = min (min (mnF g1 g2 s m) (g1 m)) (g2 m) := rfl
theorem mxF_s (g1 g2 : Nat → Int) (s : Int) (m : Nat) : mxF g1 g2 s (m + 1) = max (max (mxF g1 g2 s m) (g1 m)) (g2 m) := rfl
theorem mnF_start {g1 g2 : Nat → Int} {s : Int} (h0 : g1 0 = 0) (hs : 0 ≤ s) : ∀ m, mnF g1 g2 s (m + 1) = mnF g1 g2 0 (m + 1)
  | 0 => by unfold mnF mnF; omega
  | m + 1 => by
    have := mnF_start (g2 := g2) h0 hs m
    show min (min (mnF g1 g2 s (m + 1)) (g1 (m + 1))) (g2 (m + 1)) = min (min (mnF g1 g2 0 (m + 1)) (g1 (m + 1))) (g2 (m + 1))
    rw [this]
theorem mxF_start {g1 g2 : Nat → Int} {s : Int} (h0 : g1 0 = 0) (hs : s ≤ 0) : ∀ m, mxF g1 g2 s (m + 1) = mxF g1 g2 0 (m + 1)
  | 0 => by unfold mxF mxF; omega
  | m + 1 => by
    have := mxF_start (g2 := g2) h0 hs m
    show max (max (mxF g1 g2 s (m + 1)) (g1 (m + 1))) (g2 (m + 1)) = max (max (mxF g1 g2 0 (m + 1)) (g1 (m + 1))) (g2 (m + 1))
    rw [this]
theorem mnF_bd {g1 g2 : Nat → Int} {s : Int} (hg : ∀ j, -1000 ≤ g1 j ∧ -1000 ≤ g2 j) (hs : -1000 ≤ s ∧ s ≤ 20000) : ∀ m, -1000 ≤ mnF g1 g2 s m ∧ mnF g1 g2 s m ≤ 20000
  | 0 => hs
  | m + 1 => by
    have := mnF_bd hg hs m
    have := hg m
    unfold mnF
    omega
theorem mxF_bd {g1 g2 : Nat → Int} {s : Int} (hg : ∀ j, g1 j ≤ 1000 ∧ g2 j ≤ 1000) (hs : -20000 ≤ s ∧ s ≤ 1000) : ∀ m, -20000 ≤ mxF g1 g2 s m ∧ mxF g1 g2 s m ≤ 1000
  | 0 => hs
  | m + 1 => by
    have := mxF_bd hg hs m
    have := hg m
    unfold mxF
    omega
def A1 (bs : List Bx) (t j : Nat) : Int := acr t (fp bs j) (fq bs j)
def A2 (L : Int) (bs : List Bx) (t j : Nat) : Int := acr t (eP L bs j) (eQ L bs j)
def U1 (bs : List Bx) (t j : Nat) : Int := upz t (fq bs j)
def U2 (L : Int) (bs : List Bx) (t j : Nat) : Int := upz t (eQ L bs j)
theorem AU_bd {L : Int} (hL : 4 ≤ L ∧ L ≤ 12) {bs : List Bx} (hv : Val L bs) {t : Nat} (ht : t < 11) (j : Nat) : (-300 ≤ A1 bs t j ∧ A1 bs t j ≤ 300) ∧ (-300 ≤ A2 L bs t j ∧ A2 L bs t j ≤ 300) ∧ (0 ≤ U1 bs t j ∧ U1 bs t j ≤ U2 L bs t j) ∧ U2 L bs t j ≤ 300 := by
  obtain ⟨b1, b2, b3, b4, b5⟩ := ends_bd hL hv j
  refine ⟨acr_bd ht b1 b2 (by omega), acr_bd ht (by omega) (by omega) (by omega), ⟨(up_bd ht b2).1, up_mono ht b4⟩, ?_⟩
  have := (up_bd ht (q := eQ L bs j) (by omega)).2
  unfold U2
  omega
section
variable {L : Int} {bs : List Bx} {w : Wd} {t : Nat}
theorem s_leastAcross (hL : 4 ≤ L ∧ L ≤ 12) (hv : Val L bs) (hc : CR L bs w) (ht : t < 11) {Q : Int32 → Wd → Prop} (hq : Q (iI (mnF (A1 bs t) (A2 L bs t) 0 (2 * bs.length + 2))) w) : k_X0_leastAcross (iI t) w Q := by
  have hlen := Val_len hv
  unfold k_X0_leastAcross
  refine s_acrossOf (p := 0) (q := 0) ht ?_
  have e0 : acr t 0 0 = 0 := by unfold acr; omega
  rw [e0]
  have hbd := mnF_bd (g1 := A1 bs t) (g2 := A2 L bs t) (s := 0) (fun j => by have := AU_bd hL hv ht j; omega) (by omega)
  refine lpf_run (fun u => ∃ m : Nat, m ≤ 2 * bs.length + 2 ∧ u.1 = iI t ∧ u.2.1 = iI (mnF (A1 bs t) (A2 L bs t) 0 m) ∧ u.2.2.1 = iI m ∧ u.2.2.2 = w) (fun u => 2 * bs.length + 2 - u.2.2.1.toNatClampNeg) _ ⟨0, by omega, rfl, rfl, rfl, rfl⟩ ?_
  rintro K ⟨a1, a2, a3, w1⟩ ⟨m, hm, e1, e2, e3, e4⟩ ih
  dsimp only at e1 e2 e3 e4 ih ⊢
  subst e1; subst e2; subst e3; subst e4
  have ee : iI (m : Int) + 1 = iI ((m + 1 : Nat) : Int) := by simp only [li_0, li_1, li_2, li_3, li_4, li_5, li_6, li_7, li_8, li_9, li_10, li_11, li_12, li_13, li_14, li_15, li_16, li_20, li_24, li_25, li_26, li_31, li_40, li_41, li_100, li_169, li_600, li_1000, li_10000, li_100000, lm_1, lm_2, lm_3, lm_4, lm_5, lm_6, lm_600, lm_10000, lm_12, iI_add, iI_sub, iI_mul, iI_neg]; rfl
  unfold k_X0_leastAcross_9
  refine s_facesC hc ?_
  rw [iI_le (by constructor <;> omega) (by constructor <;> omega)]
  refine ⟨fun h => ?_, fun h => ?_⟩
  · have : m = 2 * bs.length + 2 := by omega
    subst this
    exact hq
  · have hau := AU_bd hL hv ht m
    have h1 := hbd m
    refine s_firstP hv hc (by omega) (s_firstQ hv hc (by omega) (s_acrossOf ht ?_))
    refine s_lastP hv hc (by omega) (s_lastQ hv hc (by omega) (s_acrossOf ht ?_))
    change K (iI t, (if iI (A2 L bs t m) < (if iI (A1 bs t m) < iI (mnF (A1 bs t) (A2 L bs t) 0 m) then iI (A1 bs t m) else iI (mnF (A1 bs t) (A2 L bs t) 0 m)) then iI (A2 L bs t m) else (if iI (A1 bs t m) < iI (mnF (A1 bs t) (A2 L bs t) 0 m) then iI (A1 bs t m) else iI (mnF (A1 bs t) (A2 L bs t) 0 m))), iI m + 1, w1)
    rw [iI_min _ _ (by constructor <;> omega) (by constructor <;> omega), iI_min _ _ (by constructor <;> omega) (by constructor <;> omega), ee]
    refine ih _ ⟨m + 1, by omega, rfl, rfl, rfl, rfl⟩ ?_
    dsimp only
    rw [tnN (by omega), tnN (by omega)]
    omega
theorem s_greatestAcross (hL : 4 ≤ L ∧ L ≤ 12) (hv : Val L bs) (hc : CR L bs w) (ht : t < 11) {Q : Int32 → Wd → Prop} (hq : Q (iI (mxF (A1 bs t) (A2 L bs t) 0 (2 * bs.length + 2))) w) : k_X0_greatestAcross (iI t) w Q := by
  have hlen := Val_len hv
  unfold k_X0_greatestAcross
  refine s_acrossOf (p := 0) (q := 0) ht ?_
  have e0 : acr t 0 0 = 0 := by unfold acr; omega
  rw [e0]
  have hbd := mxF_bd (g1 := A1 bs t) (g2 := A2 L bs t) (s := 0) (fun j => by have := AU_bd hL hv ht j; omega) (by omega)
  refine lpf_run (fun u => ∃ m : Nat, m ≤ 2 * bs.length + 2 ∧ u.1 = iI t ∧ u.2.1 = iI (mxF (A1 bs t) (A2 L bs t) 0 m) ∧ u.2.2.1 = iI m ∧ u.2.2.2 = w) (fun u => 2 * bs.length + 2 - u.2.2.1.toNatClampNeg) _ ⟨0, by omega, rfl, rfl, rfl, rfl⟩ ?_
  rintro K ⟨a1, a2, a3, w1⟩ ⟨m, hm, e1, e2, e3, e4⟩ ih
  dsimp only at e1 e2 e3 e4 ih ⊢
  subst e1; subst e2; subst e3; subst e4
  have ee : iI (m : Int) + 1 = iI ((m + 1 : Nat) : Int) := by simp only [li_0, li_1, li_2, li_3, li_4, li_5, li_6, li_7, li_8, li_9, li_10, li_11, li_12, li_13, li_14, li_15, li_16, li_20, li_24, li_25, li_26, li_31, li_40, li_41, li_100, li_169, li_600, li_1000, li_10000, li_100000, lm_1, lm_2, lm_3, lm_4, lm_5, lm_6, lm_600, lm_10000, lm_12, iI_add, iI_sub, iI_mul, iI_neg]; rfl
  unfold k_X0_greatestAcross_9
  refine s_facesC hc ?_
  rw [iI_le (by constructor <;> omega) (by constructor <;> omega)]
  refine ⟨fun h => ?_, fun h => ?_⟩
  · have : m = 2 * bs.length + 2 := by omega
    subst this
    exact hq
  · have hau := AU_bd hL hv ht m
    have h1 := hbd m
    refine s_firstP hv hc (by omega) (s_firstQ hv hc (by omega) (s_acrossOf ht ?_))
    refine s_lastP hv hc (by omega) (s_lastQ hv hc (by omega) (s_acrossOf ht ?_))
    change K (iI t, (if (if iI (mxF (A1 bs t) (A2 L bs t) 0 m) < iI (A1 bs t m) then iI (A1 bs t m) else iI (mxF (A1 bs t) (A2 L bs t) 0 m)) < iI (A2 L bs t m) then iI (A2 L bs t m) else (if iI (mxF (A1 bs t) (A2 L bs t) 0 m) < iI (A1 bs t m) then iI (A1 bs t m) else iI (mxF (A1 bs t) (A2 L bs t) 0 m))), iI m + 1, w1)
    rw [iI_max _ _ (by constructor <;> omega) (by constructor <;> omega), iI_max _ _ (by constructor <;> omega) (by constructor <;> omega), ee]
    refine ih _ ⟨m + 1, by omega, rfl, rfl, rfl, rfl⟩ ?_
    dsimp only
    rw [tnN (by omega), tnN (by omega)]
    omega
theorem s_greatestUp (hL : 4 ≤ L ∧ L ≤ 12) (hv : Val L bs) (hc : CR L bs w) (ht : t < 11) {Q : Int32 → Wd → Prop} (hq : Q (iI (mxF (U1 bs t) (U2 L bs t) 0 (2 * bs.length + 2))) w) : k_X0_greatestUp (iI t) w Q := by
  have hlen := Val_len hv
  unfold k_X0_greatestUp
  refine s_upOf (q := 0) ht ?_
  have e0 : upz t 0 = 0 := by unfold upz; omega
  rw [e0]
  have hbd := mxF_bd (g1 := U1 bs t) (g2 := U2 L bs t) (s := 0) (fun j => by have := AU_bd hL hv ht j; omega) (by omega)
  refine lpf_run (fun u => ∃ m : Nat, m ≤ 2 * bs.length + 2 ∧ u.1 = iI t ∧ u.2.1 = iI (mxF (U1 bs t) (U2 L bs t) 0 m) ∧ u.2.2.1 = iI m ∧ u.2.2.2 = w) (fun u => 2 * bs.length + 2 - u.2.2.1.toNatClampNeg) _ ⟨0, by omega, rfl, rfl, rfl, rfl⟩ ?_
  rintro K ⟨a1, a2, a3, w1⟩ ⟨m, hm, e1, e2, e3, e4⟩ ih
  dsimp only at e1 e2 e3 e4 ih ⊢
  subst e1; subst e2; subst e3; subst e4
  have ee : iI (m : Int) + 1 = iI ((m + 1 : Nat) : Int) := by simp only [li_0, li_1, li_2, li_3, li_4, li_5, li_6, li_7, li_8, li_9, li_10, li_11, li_12, li_13, li_14, li_15, li_16, li_20, li_24, li_25, li_26, li_31, li_40, li_41, li_100, li_169, li_600, li_1000, li_10000, li_100000, lm_1, lm_2, lm_3, lm_4, lm_5, lm_6, lm_600, lm_10000, lm_12, iI_add, iI_sub, iI_mul, iI_neg]; rfl
  unfold k_X0_greatestUp_8
  refine s_facesC hc ?_
  rw [iI_le (by constructor <;> omega) (by constructor <;> omega)]
  refine ⟨fun h => ?_, fun h => ?_⟩
  · have : m = 2 * bs.length + 2 := by omega
    subst this
    exact hq
  · have hau := AU_bd hL hv ht m
    have h1 := hbd m
    refine s_lastQ hv hc (by omega) (s_upOf ht ?_)
    change K (iI t, (if iI (mxF (U1 bs t) (U2 L bs t) 0 m) < iI (U2 L bs t m) then iI (U2 L bs t m) else iI (mxF (U1 bs t) (U2 L bs t) 0 m)), iI m + 1, w1)
    rw [iI_max _ _ (by constructor <;> omega) (by constructor <;> omega), ee]
    refine ih _ ⟨m + 1, by omega, rfl, ?_, rfl, rfl⟩ ?_
    · dsimp only
      congr 1
      rw [mxF_s]
      omega
    · dsimp only
      rw [tnN (by omega), tnN (by omega)]
      omega
theorem s_leastUp (hL : 4 ≤ L ∧ L ≤ 12) (hv : Val L bs) (hc : CR L bs w) (ht : t < 11) {Q : Int32 → Wd → Prop} (hq : Q (iI (mnF (U1 bs t) (U2 L bs t) 0 (2 * bs.length + 2))) w) : k_X0_leastUp (iI t) w Q := by
  have hlen := Val_len hv
  unfold k_X0_leastUp
  refine s_upOf (q := 0) ht ?_
  have e0 : upz t 0 = 0 := by unfold upz; omega
  rw [e0]
  have hbd := mnF_bd (g1 := U1 bs t) (g2 := U2 L bs t) (s := 0) (fun j => by have := AU_bd hL hv ht j; omega) (by omega)
  refine lpf_run (fun u => ∃ m : Nat, m ≤ 2 * bs.length + 2 ∧ u.1 = iI t ∧ u.2.1 = iI (mnF (U1 bs t) (U2 L bs t) 0 m) ∧ u.2.2.1 = iI m ∧ u.2.2.2 = w) (fun u => 2 * bs.length + 2 - u.2.2.1.toNatClampNeg) _ ⟨0, by omega, rfl, rfl, rfl, rfl⟩ ?_
  rintro K ⟨a1, a2, a3, w1⟩ ⟨m, hm, e1, e2, e3, e4⟩ ih
  dsimp only at e1 e2 e3 e4 ih ⊢
  subst e1; subst e2; subst e3; subst e4
  have ee : iI (m : Int) + 1 = iI ((m + 1 : Nat) : Int) := by simp only [li_0, li_1, li_2, li_3, li_4, li_5, li_6, li_7, li_8, li_9, li_10, li_11, li_12, li_13, li_14, li_15, li_16, li_20, li_24, li_25, li_26, li_31, li_40, li_41, li_100, li_169, li_600, li_1000, li_10000, li_100000, lm_1, lm_2, lm_3, lm_4, lm_5, lm_6, lm_600, lm_10000, lm_12, iI_add, iI_sub, iI_mul, iI_neg]; rfl
  unfold k_X0_leastUp_8
  refine s_facesC hc ?_
  rw [iI_le (by constructor <;> omega) (by constructor <;> omega)]
  refine ⟨fun h => ?_, fun h => ?_⟩
  · have : m = 2 * bs.length + 2 := by omega
    subst this
    exact hq
  · have hau := AU_bd hL hv ht m
    have h1 := hbd m
    refine s_firstQ hv hc (by omega) (s_upOf ht ?_)
    change K (iI t, (if iI (U1 bs t m) < iI (mnF (U1 bs t) (U2 L bs t) 0 m) then iI (U1 bs t m) else iI (mnF (U1 bs t) (U2 L bs t) 0 m)), iI m + 1, w1)
    rw [iI_min _ _ (by constructor <;> omega) (by constructor <;> omega), ee]
    refine ih _ ⟨m + 1, by omega, rfl, ?_, rfl, rfl⟩ ?_
    · dsimp only
      congr 1
      rw [mnF_s]
      omega
    · dsimp only
      rw [tnN (by omega), tnN (by omega)]
      omega
theorem s_endP (hv : Val L bs) (hc : ML L bs w) {f : Nat} (hf : f < 2 * bs.length + 2) {Q : Int32 → Wd → Prop} (hq : Q (iI (eP L bs f)) w) : k_X4_endP (iI f) w Q := by
  have hlen := Val_len hv
  obtain ⟨f1, f2, f3, f4⟩ := hc.2.2.1 f hf
  have hin := inN (show f < 18 by omega) (by decide)
  unfold k_X4_endP
  rw [tnN (by omega), f1, f2, f4]
  unfold eP at hq
  rcases fw_01 bs f with tw | tw
  · rw [if_pos tw] at hq
    rw [tw, iI_add]
    exact ⟨hin, hin, fun h => absurd rfl h, fun _ => ⟨hin, hq⟩⟩
  · rw [if_neg (by omega)] at hq
    rw [tw, Int32.add_zero]
    exact ⟨hin, hin, fun _ => hq, fun h => absurd h (by decide)⟩
theorem s_endQ (hv : Val L bs) (hc : ML L bs w) {f : Nat} (hf : f < 2 * bs.length + 2) {Q : Int32 → Wd → Prop} (hq : Q (iI (eQ L bs f)) w) : k_X4_endQ (iI f) w Q := by
  have hlen := Val_len hv
  obtain ⟨f1, f2, f3, f4⟩ := hc.2.2.1 f hf
  have hin := inN (show f < 18 by omega) (by decide)
  unfold k_X4_endQ
  rw [tnN (by omega), f1, f3, f4]
  unfold eQ at hq
  rcases fw_01 bs f with tw | tw
  · rw [if_neg (by omega)] at hq
    rw [tw, Int32.add_zero]
    exact ⟨hin, hin, fun _ => hq, fun h => absurd h (by decide)⟩
  · rw [if_pos tw] at hq
    rw [tw, iI_add]
    exact ⟨hin, hin, fun h => absurd rfl h, fun _ => ⟨hin, hq⟩⟩
end
theorem s_v120 {K38 : (Int32 × Int32 × Int32 × Int32 × Int32 × Wd) → Prop} {K50 : (Int32 × Int32 × Int32 × Int32 × Int32 × Int32 × Wd) → Prop} {Q : Int32 → Wd → Prop} {x1 x2 x5 x6 : Int32} {lo hi v : Int} (hlo : ir lo) (hhi : ir hi) (hv : ir v) {w : Wd} (hk : K50 (x1, x2, iI (min lo v), iI (max hi v), x5, x6 + 1, w)) : k_X4_view_120 K38 K50 Q x1 x2 (iI lo) (iI hi) x5 x6 (iI v) w := by
  unfold k_X4_view_120
  have second : ∀ y : Int, y = min lo v → k_X4_view_134 K38 K50 Q x1 x2 (iI hi) x5 x6 (iI v) (iI y) w := fun y hy => by
    subst hy
    unfold k_X4_view_134 k_X4_view_149
    rw [iI_le hv hhi]
    refine ⟨fun h => ?_, fun h => ?_⟩
    · rw [show max hi v = hi by omega] at hk; exact hk
    · rw [show max hi v = v by omega] at hk; exact hk
  rw [iI_le hlo hv]
  exact ⟨fun h => second lo (by omega), fun h => second v (by omega)⟩
/-- the model's view -/
theorem s_viewM {L : Int} {bs : List Bx} {w : Wd} {t wh : Nat} (hL : 4 ≤ L ∧ L ≤ 12) (hv : Val L bs) (hr : MRow (w 0) L bs) (ht : t < 11) (hwh : wh < 4) {Q : Int32 → Wd → Prop}
    (hq : ∀ w' : Wd, (∀ r, (r ≤ 2 ∨ 16 ≤ r) → w' r = w r) → Q (iI ((if wh = 0 then mnF (A1 bs t) (A2 L bs t) 0 (2 * bs.length + 2) else if wh = 1 then mxF (A1 bs t) (A2 L bs t) 0 (2 * bs.length + 2) else if wh = 2 then mxF (U1 bs t) (U2 L bs t) 0 (2 * bs.length + 2) else mnF (U1 bs t) (U2 L bs t) 0 (2 * bs.length + 2)) + 1000)) w') : k_X4_view (iI t) (iI wh) w Q := by
  have hlen := Val_len hv
  unfold k_X4_view
  refine s_in (l := 0) (h := 10) (by constructor <;> omega) (by constructor <;> omega) (by constructor <;> omega) (fun _ _ => ⟨fun h => absurd h (by decide), fun _ => ?_⟩) (fun h => absurd ⟨by omega, by omega⟩ h)
  refine s_in (l := 0) (h := 3) (by constructor <;> omega) (by constructor <;> omega) (by constructor <;> omega) (fun _ _ => ⟨fun _ => ?_, fun h => absurd h (by decide)⟩) (fun h => absurd ⟨by omega, by omega⟩ h)
  refine s_lay hL hv hr (fun w1 g1 m1 => ?_)
  replace hq := hq w1 g1
  obtain ⟨G1, hG1⟩ : ∃ G1 : Nat → Int, G1 = if wh < 2 then A1 bs t else U1 bs t := ⟨_, rfl⟩
  obtain ⟨G2, hG2⟩ : ∃ G2 : Nat → Int, G2 = if wh < 2 then A2 L bs t else U2 L bs t := ⟨_, rfl⟩
  have hgb : ∀ j, (-300 ≤ G1 j ∧ G1 j ≤ 300) ∧ (-300 ≤ G2 j ∧ G2 j ≤ 300) := fun j => by
    have := AU_bd hL hv ht j
    rw [hG1, hG2]
    split <;> omega
  have hg0 : G1 0 = 0 := by
    have h1 : fp bs 0 = 0 ∧ fq bs 0 = 0 := by
      clear hq hgb hG1 hG2 hr m1 g1 hlen
      induction bs with
      | nil => exact ⟨rfl, rfl⟩
      | cons x bs ih =>
        obtain ⟨-, a, b, -⟩ := face_tail (L := L) x bs (j := 0) (by omega)
        rw [a, b]
        exact ih hv.1
    rw [hG1]
    split
    · unfold A1 acr; rw [h1.1, h1.2]; omega
    · unfold U1 upz; rw [h1.2]; omega
  have bn := mnF_bd (g1 := G1) (g2 := G2) (s := 10000) (fun j => by have := hgb j; omega) (by omega)
  have bx' := mxF_bd (g1 := G1) (g2 := G2) (s := -10000) (fun j => by have := hgb j; omega) (by omega)
  refine lpf_run (fun u => ∃ m : Nat, m ≤ 2 * bs.length + 2 ∧ u.1 = iI t ∧ u.2.1 = iI wh ∧ u.2.2.1 = iI (mnF G1 G2 10000 m) ∧ u.2.2.2.1 = iI (mxF G1 G2 (-10000) m) ∧ u.2.2.2.2.1 = iI m ∧ u.2.2.2.2.2 = w1) (fun u => 2 * bs.length + 2 - u.2.2.2.2.1.toNatClampNeg) _ ⟨0, by omega, rfl, rfl, rfl, rfl, rfl, rfl⟩ ?_
  rintro K ⟨a1, a2, a3, a4, a5, w2⟩ ⟨m, hm, e1, e2, e3, e4, e5, e6⟩ ih
  dsimp only at e1 e2 e3 e4 e5 e6 ih ⊢
  subst e1; subst e2; subst e3; subst e4; subst e5; subst e6
  have ee : iI (m : Int) + 1 = iI ((m + 1 : Nat) : Int) := by simp only [li_0, li_1, li_2, li_3, li_4, li_5, li_6, li_7, li_8, li_9, li_10, li_11, li_12, li_13, li_14, li_15, li_16, li_20, li_24, li_25, li_26, li_31, li_40, li_41, li_100, li_169, li_600, li_1000, li_10000, li_100000, lm_1, lm_2, lm_3, lm_4, lm_5, lm_6, lm_600, lm_10000, lm_12, iI_add, iI_sub, iI_mul, iI_neg]; rfl
  unfold k_X4_view_38
  rw [m1.1, iI_le (by constructor <;> omega) (by constructor <;> omega)]
  refine ⟨fun h => ?_, fun h => ?_⟩
  · have hmm : m = (2 * bs.length + 1) + 1 := by omega
    rw [hmm, mnF_start hg0 (by decide), mxF_start hg0 (by decide)]
    unfold k_X4_view_175
    rw [li_1000, iI_add, iI_add]
    rcases (show wh = 0 ∨ wh = 1 ∨ wh = 2 ∨ wh = 3 by omega) with rfl | rfl | rfl | rfl
    · rw [hG1, hG2, if_pos (by decide), if_pos (by decide)]
      refine ⟨fun _ => ?_, fun h => absurd rfl h⟩
      rw [if_pos rfl, Int.add_comm] at hq
      exact hq
    · rw [hG1, hG2, if_pos (by decide), if_pos (by decide)]
      refine ⟨fun h => absurd h (by decide), fun _ => ⟨fun _ => ?_, fun h => absurd h (by decide)⟩⟩
      rw [if_neg (by decide), if_pos rfl, Int.add_comm] at hq
      exact hq
    · rw [hG1, hG2, if_neg (by decide), if_neg (by decide)]
      refine ⟨fun h => absurd h (by decide), fun _ => ⟨fun _ => ?_, fun h => absurd h (by decide)⟩⟩
      rw [if_neg (by decide), if_neg (by decide), if_pos rfl, Int.add_comm] at hq
      exact hq
    · rw [hG1, hG2, if_neg (by decide), if_neg (by decide)]
      refine ⟨fun h => absurd h (by decide), fun _ => ⟨fun h => absurd rfl h, fun _ => ?_⟩⟩
      rw [if_neg (by decide), if_neg (by decide), if_neg (by decide), Int.add_comm] at hq
      exact hq
  · have hgm := hgb m
    have b1 := bn m
    have b2 := bx' m
    obtain ⟨f1, f2, f3, f4⟩ := m1.2.2.1 m (by omega)
    have hin := inN (show m < 18 by omega) (by decide)
    have fin : K (iI t, iI wh, iI (mnF G1 G2 10000 (m + 1)), iI (mxF G1 G2 (-10000) (m + 1)), iI m + 1, w2) := by
      rw [ee]
      refine ih _ ⟨m + 1, by omega, rfl, rfl, rfl, rfl, rfl, rfl⟩ ?_
      dsimp only
      rw [tnN (by omega), tnN (by omega)]
      omega
    -- the body, at the end q with its p
    have body : ∀ (K50 : (Int32 × Int32 × Int32 × Int32 × Int32 × Int32 × Wd) → Prop) (kk : Int32) (lo hi g pp qq : Int), ir lo → ir hi → -300 ≤ g ∧ g ≤ 300 → g = (if wh < 2 then acr t pp qq else upz t qq) → ((¬ kk = 0 → pp = eP L bs m) ∧ (kk = 0 → pp = fp bs m)) → K50 (iI t, iI wh, iI (min lo g), iI (max hi g), iI m, kk + 1, w2) → k_X4_view_77 K K50 Q (iI t) (iI wh) (iI lo) (iI hi) (iI m) kk (iI qq) w2 := by
      intro K50 kk lo hi g pp qq h1 h2 h3 h4 h5 h6
      unfold k_X4_view_77
      rw [li_2, iI_le (by constructor <;> omega) (by constructor <;> omega)]
      refine ⟨fun h7 => ?_, fun h7 => ⟨fun h8 => ?_, fun h8 => ⟨hin, ?_⟩⟩⟩
      · rw [if_neg (by omega)] at h4
        refine s_upM ht ?_
        rw [← h4]
        exact s_v120 h1 h2 (by constructor <;> omega) h6
      · rw [if_pos (by omega)] at h4
        refine s_endP hv m1 (by omega) ?_
        unfold k_X4_view_106
        rw [← h5.1 h8]
        refine s_acrossM ht ?_
        rw [← h4]
        exact s_v120 h1 h2 (by constructor <;> omega) h6
      · rw [if_pos (by omega)] at h4
        unfold k_X4_view_106
        rw [tnN (by omega), f2, ← h5.2 h8]
        refine s_acrossM ht ?_
        rw [← h4]
        exact s_v120 h1 h2 (by constructor <;> omega) h6
    refine ⟨3, ?_⟩
    unfold lpf
    dsimp only
    unfold k_X4_view_50
    refine ⟨fun h => absurd h (by decide), fun _ => ⟨fun h => absurd rfl h, fun _ => ⟨hin, ?_⟩⟩⟩
    rw [tnN (by omega), f3]
    refine body _ 0 _ _ (G1 m) (fp bs m) (fq bs m) (by constructor <;> omega) (by constructor <;> omega) hgm.1 (by rw [hG1]; split <;> rfl) ⟨fun h => absurd rfl h, fun _ => rfl⟩ ?_
    unfold lpf
    dsimp only
    try unfold k_X4_view_50
    refine ⟨fun h => absurd h (by decide), fun _ => ⟨fun _ => ?_, fun h => absurd h (by decide)⟩⟩
    refine s_endQ hv m1 (by omega) ?_
    refine body _ (0 + 1) _ _ (G2 m) (eP L bs m) (eQ L bs m) (by constructor <;> omega) (by constructor <;> omega) hgm.2 (by rw [hG2]; split <;> rfl) ⟨fun _ => rfl, fun h => absurd h (by decide)⟩ ?_
    unfold lpf
    dsimp only
    try unfold k_X4_view_50
    exact ⟨fun _ => fin, fun h => absurd (by decide) h⟩
