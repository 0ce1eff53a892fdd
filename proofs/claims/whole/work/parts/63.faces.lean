/-! ends of faces; places on faces; sizes -/
def eP (L : Int) (bs : List Bx) (f : Nat) : Int := if fw bs f = 0 then fp bs f + fl L bs f else fp bs f
def eQ (L : Int) (bs : List Bx) (f : Nat) : Int := if fw bs f = 1 then fq bs f + fl L bs f else fq bs f
theorem ends_bd {L : Int} (hL : 4 ≤ L ∧ L ≤ 12) {bs : List Bx} (hv : Val L bs) (f : Nat) : 0 ≤ fp bs f ∧ 0 ≤ fq bs f ∧ fp bs f ≤ eP L bs f ∧ fq bs f ≤ eQ L bs f ∧ eP L bs f + eQ L bs f ≤ L := by
  have := ftri (L := L) (by omega) hv f
  have tw := fw_01 bs f
  unfold eP eQ
  rcases tw with tw | tw
  · rw [if_pos tw, if_neg (by omega)]; omega
  · rw [if_neg (by omega), if_pos tw]; omega
theorem s_facesC {L : Int} {bs : List Bx} {w : Wd} (hc : CR L bs w) {Q : Int32 → Wd → Prop} (hq : Q (iI ((2 * bs.length + 2 : Nat) : Int)) w) : k_X0_faces w Q := by
  unfold k_X0_faces
  have ef : (2 : Int32) + 2 * w 1 0 = iI ((2 * bs.length + 2 : Nat) : Int) := by rw [hc.2.1]; simp only [li_0, li_1, li_2, li_3, li_4, li_5, li_6, li_7, li_8, li_9, li_10, li_11, li_12, li_13, li_14, li_15, li_16, li_20, li_24, li_25, li_26, li_31, li_40, li_41, li_100, li_169, li_600, li_1000, li_10000, li_100000, lm_1, lm_2, lm_3, lm_4, lm_5, lm_6, lm_600, lm_10000, lm_12, iI_add, iI_sub, iI_mul, iI_neg]; congr 1; omega
  rw [ef]
  exact hq
section
variable {L : Int} {bs : List Bx} {w : Wd} {f : Nat}
theorem s_firstP (hv : Val L bs) (hc : CR L bs w) (hf : f < 2 * bs.length + 2) {Q : Int32 → Wd → Prop} (hq : Q (iI (fp bs f)) w) : k_X0_firstP (iI f) w Q := by
  have hlen := Val_len hv
  obtain ⟨f1, f2, f3, f4⟩ := hc.2.2.2.1 f hf
  have hin := inN (show f < 14 by omega) (by decide)
  unfold k_X0_firstP
  refine s_hasFace hlen hc.2.1 (by constructor <;> omega) (fun _ _ => ⟨fun _ => ⟨hin, ?_⟩, fun h => absurd h (by decide)⟩) (fun h => absurd ⟨by omega, by omega⟩ h)
  rw [tnN (by omega), f1, f2, f3]
  unfold fline fsta
  rcases fw_01 bs f with tw | tw
  · rw [tw, if_pos rfl, if_pos rfl]
    exact ⟨fun h => absurd rfl h, fun _ => ⟨hin, hq⟩⟩
  · rw [tw, if_neg (by decide), if_neg (by decide)]
    exact ⟨fun _ => ⟨hin, hq⟩, fun h => absurd h (by decide)⟩
theorem s_firstQ (hv : Val L bs) (hc : CR L bs w) (hf : f < 2 * bs.length + 2) {Q : Int32 → Wd → Prop} (hq : Q (iI (fq bs f)) w) : k_X0_firstQ (iI f) w Q := by
  have hlen := Val_len hv
  obtain ⟨f1, f2, f3, f4⟩ := hc.2.2.2.1 f hf
  have hin := inN (show f < 14 by omega) (by decide)
  unfold k_X0_firstQ
  refine s_hasFace hlen hc.2.1 (by constructor <;> omega) (fun _ _ => ⟨fun _ => ⟨hin, ?_⟩, fun h => absurd h (by decide)⟩) (fun h => absurd ⟨by omega, by omega⟩ h)
  rw [tnN (by omega), f1, f2, f3]
  unfold fline fsta
  rcases fw_01 bs f with tw | tw
  · rw [tw, if_pos rfl, if_pos rfl]
    exact ⟨fun _ => ⟨hin, hq⟩, fun h => absurd h (by decide)⟩
  · rw [tw, if_neg (by decide), if_neg (by decide)]
    exact ⟨fun h => absurd rfl h, fun _ => ⟨hin, hq⟩⟩
theorem s_lastP (hv : Val L bs) (hc : CR L bs w) (hf : f < 2 * bs.length + 2) {Q : Int32 → Wd → Prop} (hq : Q (iI (eP L bs f)) w) : k_X0_lastP (iI f) w Q := by
  have hlen := Val_len hv
  obtain ⟨f1, f2, f3, f4⟩ := hc.2.2.2.1 f hf
  have hin := inN (show f < 14 by omega) (by decide)
  unfold k_X0_lastP
  refine s_hasFace hlen hc.2.1 (by constructor <;> omega) (fun _ _ => ⟨fun _ => ⟨hin, ?_⟩, fun h => absurd h (by decide)⟩) (fun h => absurd ⟨by omega, by omega⟩ h)
  rw [tnN (by omega), f1, f2, f3, f4]
  unfold fline fsta
  unfold eP at hq
  rcases fw_01 bs f with tw | tw
  · rw [tw, if_pos rfl] at hq
    rw [tw, if_pos rfl, if_pos rfl, iI_add]
    exact ⟨fun h => absurd rfl h, fun _ => ⟨hin, hin, hq⟩⟩
  · rw [tw, if_neg (by decide)] at hq
    rw [tw, if_neg (by decide), if_neg (by decide)]
    exact ⟨fun _ => ⟨hin, hq⟩, fun h => absurd h (by decide)⟩
theorem s_lastQ (hv : Val L bs) (hc : CR L bs w) (hf : f < 2 * bs.length + 2) {Q : Int32 → Wd → Prop} (hq : Q (iI (eQ L bs f)) w) : k_X0_lastQ (iI f) w Q := by
  have hlen := Val_len hv
  obtain ⟨f1, f2, f3, f4⟩ := hc.2.2.2.1 f hf
  have hin := inN (show f < 14 by omega) (by decide)
  unfold k_X0_lastQ
  refine s_hasFace hlen hc.2.1 (by constructor <;> omega) (fun _ _ => ⟨fun _ => ⟨hin, ?_⟩, fun h => absurd h (by decide)⟩) (fun h => absurd ⟨by omega, by omega⟩ h)
  rw [tnN (by omega), f1, f2, f3, f4]
  unfold fline fsta
  unfold eQ at hq
  rcases fw_01 bs f with tw | tw
  · rw [tw, if_neg (by decide)] at hq
    rw [tw, if_pos rfl, if_pos rfl, iI_add]
    exact ⟨fun _ => ⟨hin, hq⟩, fun h => absurd h (by decide)⟩
  · rw [tw, if_pos rfl] at hq
    rw [tw, if_neg (by decide), if_neg (by decide), iI_add]
    exact ⟨fun h => absurd rfl h, fun _ => ⟨hin, hin, hq⟩⟩
theorem s_facesOn (hL : 4 ≤ L ∧ L ≤ 12) (hv : Val L bs) (hc : CR L bs w) {p q : Int} (hp : -12 ≤ p ∧ p ≤ 12) (hq' : -12 ≤ q ∧ q ≤ 12) {Q : Int32 → Wd → Prop} (hq : Q (iI (onN L bs (2 * bs.length + 2) p q)) w) : k_X0_facesOn (iI p) (iI q) w Q := by
  have hlen := Val_len hv
  unfold k_X0_facesOn
  refine lpf_run (fun u => ∃ m : Nat, m ≤ 2 * bs.length + 2 ∧ u.1 = iI p ∧ u.2.1 = iI q ∧ u.2.2.1 = iI (onN L bs m p q) ∧ u.2.2.2.1 = iI m ∧ u.2.2.2.2 = w) (fun u => 2 * bs.length + 2 - u.2.2.2.1.toNatClampNeg) _ ⟨0, by omega, rfl, rfl, rfl, rfl, rfl⟩ ?_
  rintro K ⟨a1, a2, a3, a4, w1⟩ ⟨m, hm, e1, e2, e3, e4, e5⟩ ih
  dsimp only at e1 e2 e3 e4 e5 ih ⊢
  subst e1; subst e2; subst e3; subst e4; subst e5
  have ee : iI (m : Int) + 1 = iI ((m + 1 : Nat) : Int) := by simp only [li_0, li_1, li_2, li_3, li_4, li_5, li_6, li_7, li_8, li_9, li_10, li_11, li_12, li_13, li_14, li_15, li_16, li_20, li_24, li_25, li_26, li_31, li_40, li_41, li_100, li_169, li_600, li_1000, li_10000, li_100000, lm_1, lm_2, lm_3, lm_4, lm_5, lm_6, lm_600, lm_10000, lm_12, iI_add, iI_sub, iI_mul, iI_neg]; rfl
  have hsucc : onN L bs (m + 1) p q = onN L bs m p q + if onB L bs p q m = true then 1 else 0 := fb_ct_succ _ _
  unfold k_X0_facesOn_5
  refine s_facesC hc ?_
  rw [iI_le (by constructor <;> omega) (by constructor <;> omega)]
  refine ⟨fun h => ?_, fun h => ?_⟩
  · have : m = 2 * bs.length + 2 := by omega
    subst this
    exact hq
  · obtain ⟨b1, b2, b3, b4, b5⟩ := ends_bd hL hv m
    have next : ∀ x : Int32, x = iI (onN L bs (m + 1) p q) → K (iI p, iI q, x, iI m + 1, w1) := fun x hx => by
      rw [ee, hx]
      refine ih _ ⟨m + 1, by omega, rfl, rfl, rfl, rfl, rfl⟩ ?_
      dsimp only
      rw [tnN (by omega), tnN (by omega)]
      omega
    have hon : onB L bs p q m = decide (fp bs m ≤ p ∧ p ≤ eP L bs m ∧ fq bs m ≤ q ∧ q ≤ eQ L bs m) := by
      unfold onB eP eQ
      rcases fw_01 bs m with tw | tw
      · simp only [tw, true_and, false_and, or_false, if_true, if_neg (show ¬ (0 : Int) = 1 by decide)]
        exact decide_eq_decide.mpr (by omega)
      · simp only [tw, true_and, false_and, false_or, if_true, if_neg (show ¬ (1 : Int) = 0 by decide)]
        exact decide_eq_decide.mpr (by omega)
    refine s_firstP hv hc (by omega) (s_lastP hv hc (by omega) ?_)
    refine s_isWithin (by constructor <;> omega) (by constructor <;> omega) (by constructor <;> omega) (fun h1 h2 => ⟨fun h => absurd h (by decide), fun _ => ?_⟩) (fun h1 => ⟨fun _ => ?_, fun h => absurd rfl h⟩)
    · refine s_firstQ hv hc (by omega) (s_lastQ hv hc (by omega) ?_)
      refine s_isWithin (by constructor <;> omega) (by constructor <;> omega) (by constructor <;> omega) (fun h3 h4 => ⟨fun h => absurd h (by decide), fun _ => ?_⟩) (fun h3 => ⟨fun _ => ?_, fun h => absurd rfl h⟩)
      · unfold k_X0_facesOn_55
        refine next _ ?_
        rw [hsucc, hon, if_pos (by simp; omega)]
        simp only [li_0, li_1, li_2, li_3, li_4, li_5, li_6, li_7, li_8, li_9, li_10, li_11, li_12, li_13, li_14, li_15, li_16, li_20, li_24, li_25, li_26, li_31, li_40, li_41, li_100, li_169, li_600, li_1000, li_10000, li_100000, lm_1, lm_2, lm_3, lm_4, lm_5, lm_6, lm_600, lm_10000, lm_12, iI_add, iI_sub, iI_mul, iI_neg]
        rfl
      · unfold k_X0_facesOn_55
        refine next _ ?_
        rw [hsucc, hon, if_neg (by simp; omega)]
        rfl
    · unfold k_X0_facesOn_55
      refine next _ ?_
      rw [hsucc, hon, if_neg (by simp; omega)]
      rfl
end
/-- the sizes of all boxes, added -/
def szS (bs : List Bx) : Nat → Int
  | 0 => 0
  | n + 1 => szS bs n + (bx bs n).2.1 * (bx bs n).2.2
theorem s_sumOfSizes {L : Int} {bs : List Bx} {w : Wd} (hv : Val L bs) (hc : CR L bs w) {Q : Int32 → Wd → Prop} (hq : Q (iI (szS bs bs.length)) w) : k_X0_sumOfSizes w Q := by
  have hlen := Val_len hv
  unfold k_X0_sumOfSizes
  refine lpf_run (fun u => ∃ m : Nat, m ≤ bs.length ∧ u.1 = iI (szS bs m) ∧ u.2.1 = iI m ∧ u.2.2 = w) (fun u => bs.length - u.2.1.toNatClampNeg) _ ⟨0, by omega, rfl, rfl, rfl⟩ ?_
  rintro K ⟨a1, a2, w1⟩ ⟨m, hm, e1, e2, e3⟩ ih
  dsimp only at e1 e2 e3 ih ⊢
  subst e1; subst e2; subst e3
  have ee : iI (m : Int) + 1 = iI ((m + 1 : Nat) : Int) := by simp only [li_0, li_1, li_2, li_3, li_4, li_5, li_6, li_7, li_8, li_9, li_10, li_11, li_12, li_13, li_14, li_15, li_16, li_20, li_24, li_25, li_26, li_31, li_40, li_41, li_100, li_169, li_600, li_1000, li_10000, li_100000, lm_1, lm_2, lm_3, lm_4, lm_5, lm_6, lm_600, lm_10000, lm_12, iI_add, iI_sub, iI_mul, iI_neg]; rfl
  unfold k_X0_sumOfSizes_4
  rw [hc.2.1, li_6, iI_le (by constructor <;> omega) (by constructor <;> omega), iI_le (by constructor <;> omega) (by constructor <;> omega), tnN (by omega)]
  refine ⟨fun h => ?_, fun h => ⟨fun h2 => absurd h2 (by omega), fun h2 => ?_⟩⟩
  · have : m = bs.length := by omega
    subst this
    exact hq
  · obtain ⟨x2, x3, x4⟩ := hc.2.2.1 m (by omega)
    rw [x3, x4, iI_mul, iI_add, ee]
    have hin := inN (show m < 6 by omega) (by decide)
    refine ⟨hin, hin, ih _ ⟨m + 1, by omega, rfl, rfl, rfl⟩ ?_⟩
    dsimp only
    rw [tnN (by omega), tnN (by omega)]
    omega
theorem s_sizes {L : Int} {bs : List Bx} {w : Wd} (hv : Val L bs) (hr : MRow (w 0) L bs) {Q : Int32 → Wd → Prop} (hq : Q (iI (szS bs bs.length)) w) : k_X4_sizes w Q := by
  have hlen := Val_len hv
  unfold k_X4_sizes
  refine lpf_run (fun u => ∃ m : Nat, m ≤ bs.length ∧ u.1 = iI (szS bs m) ∧ u.2.1 = iI m ∧ u.2.2 = w) (fun u => bs.length - u.2.1.toNatClampNeg) _ ⟨0, by omega, rfl, rfl, rfl⟩ ?_
  rintro K ⟨a1, a2, w1⟩ ⟨m, hm, e1, e2, e3⟩ ih
  dsimp only at e1 e2 e3 ih ⊢
  subst e1; subst e2; subst e3
  have ee : iI (m : Int) + 1 = iI ((m + 1 : Nat) : Int) := by simp only [li_0, li_1, li_2, li_3, li_4, li_5, li_6, li_7, li_8, li_9, li_10, li_11, li_12, li_13, li_14, li_15, li_16, li_20, li_24, li_25, li_26, li_31, li_40, li_41, li_100, li_169, li_600, li_1000, li_10000, li_100000, lm_1, lm_2, lm_3, lm_4, lm_5, lm_6, lm_600, lm_10000, lm_12, iI_add, iI_sub, iI_mul, iI_neg]; rfl
  have o1 : ((1 : Int32)).toNatClampNeg = 1 := rfl
  unfold k_X4_sizes_4
  rw [o1, hr.2.1, iI_le (by constructor <;> omega) (by constructor <;> omega)]
  refine ⟨inN (n := 1) (by decide) (by decide), fun h => ?_, fun h => ?_⟩
  · have : m = bs.length := by omega
    subst this
    exact hq
  · obtain ⟨x2, x3, x4⟩ := hr.2.2 m (by omega)
    have y2 : (2 : Int32) + 3 * iI (m : Int) = iI ((2 + 3 * m : Nat) : Int) := by simp only [li_0, li_1, li_2, li_3, li_4, li_5, li_6, li_7, li_8, li_9, li_10, li_11, li_12, li_13, li_14, li_15, li_16, li_20, li_24, li_25, li_26, li_31, li_40, li_41, li_100, li_169, li_600, li_1000, li_10000, li_100000, lm_1, lm_2, lm_3, lm_4, lm_5, lm_6, lm_600, lm_10000, lm_12, iI_add, iI_sub, iI_mul, iI_neg]; congr 1
    have y3 : iI ((2 + 3 * m : Nat) : Int) + 1 = iI ((3 + 3 * m : Nat) : Int) := by simp only [li_0, li_1, li_2, li_3, li_4, li_5, li_6, li_7, li_8, li_9, li_10, li_11, li_12, li_13, li_14, li_15, li_16, li_20, li_24, li_25, li_26, li_31, li_40, li_41, li_100, li_169, li_600, li_1000, li_10000, li_100000, lm_1, lm_2, lm_3, lm_4, lm_5, lm_6, lm_600, lm_10000, lm_12, iI_add, iI_sub, iI_mul, iI_neg]; congr 1; omega
    have y4 : iI ((2 + 3 * m : Nat) : Int) + 2 = iI ((4 + 3 * m : Nat) : Int) := by simp only [li_0, li_1, li_2, li_3, li_4, li_5, li_6, li_7, li_8, li_9, li_10, li_11, li_12, li_13, li_14, li_15, li_16, li_20, li_24, li_25, li_26, li_31, li_40, li_41, li_100, li_169, li_600, li_1000, li_10000, li_100000, lm_1, lm_2, lm_3, lm_4, lm_5, lm_6, lm_600, lm_10000, lm_12, iI_add, iI_sub, iI_mul, iI_neg]; congr 1; omega
    rw [y2, y3, y4, tnN (by omega), tnN (by omega), x3, x4, iI_mul, iI_add, ee]
    refine ⟨inN (by omega) (by decide), inN (by omega) (by decide), ih _ ⟨m + 1, by omega, rfl, rfl, rfl⟩ ?_⟩
    dsimp only
    rw [tnN (by omega), tnN (by omega)]
    omega
/-- the places that lie on some face -/
def plB (L : Int) (bs : List Bx) (i : Nat) : Bool := decide (0 < onN L bs (2 * bs.length + 2) ((i % 13 : Nat) : Int) ((i / 13 : Nat) : Int))
theorem s_placesM {L : Int} {bs : List Bx} {w : Wd} (hlen : bs.length ≤ 6) (hG : GR L bs w (2 * bs.length + 2)) {Q : Int32 → Wd → Prop} (hq : Q (iI (fb_ct (plB L bs) 169)) w) : k_X4_places w Q := by
  unfold k_X4_places
  refine lpf_run (fun u => ∃ m : Nat, m ≤ 169 ∧ u.1 = iI (fb_ct (plB L bs) m) ∧ u.2.1 = iI m ∧ u.2.2 = w) (fun u => 169 - u.2.1.toNatClampNeg) _ ⟨0, by omega, rfl, rfl, rfl⟩ ?_
  rintro K ⟨a1, a2, w1⟩ ⟨m, hm, e1, e2, e3⟩ ih
  dsimp only at e1 e2 e3 ih ⊢
  subst e1; subst e2; subst e3
  have ee : iI (m : Int) + 1 = iI ((m + 1 : Nat) : Int) := by simp only [li_0, li_1, li_2, li_3, li_4, li_5, li_6, li_7, li_8, li_9, li_10, li_11, li_12, li_13, li_14, li_15, li_16, li_20, li_24, li_25, li_26, li_31, li_40, li_41, li_100, li_169, li_600, li_1000, li_10000, li_100000, lm_1, lm_2, lm_3, lm_4, lm_5, lm_6, lm_600, lm_10000, lm_12, iI_add, iI_sub, iI_mul, iI_neg]; rfl
  unfold k_X4_places_4
  rw [li_169, iI_le (by constructor <;> omega) (by constructor <;> omega), tnN (by omega)]
  refine ⟨fun h => ?_, fun h => ⟨inN (by omega) (by decide), ?_⟩⟩
  · have : m = 169 := by omega
    subst this
    exact hq
  · obtain ⟨g1, g2, g3⟩ := hG (m % 13) (by omega) (m / 13) (by omega)
    rw [show 13 * (m / 13) + m % 13 = m by omega] at g3
    have b1 : onN L bs (2 * bs.length + 2) ((m % 13 : Nat) : Int) ((m / 13 : Nat) : Int) ≤ 2 * bs.length + 2 := fb_ct_le _ _
    have hsucc := fb_ct_succ (plB L bs) m
    rw [g3, li_0, iI_le (by constructor <;> omega) (by constructor <;> omega)]
    have next : ∀ x : Int32, x = iI (fb_ct (plB L bs) (m + 1)) → K (x, iI m + 1, w1) := fun x hx => by
      rw [ee, hx]
      refine ih _ ⟨m + 1, by omega, rfl, rfl, rfl⟩ ?_
      dsimp only
      rw [tnN (by omega), tnN (by omega)]
      omega
    refine ⟨fun h2 => ?_, fun h2 => ?_⟩
    · unfold k_X4_places_26
      refine next _ ?_
      rw [hsucc, show plB L bs m = false from decide_eq_false (by omega), iI_add]
      rfl
    · unfold k_X4_places_26
      refine next _ ?_
      rw [hsucc, show plB L bs m = true from decide_eq_true (by omega), li_1, iI_add]
      rfl
