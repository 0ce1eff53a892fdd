/-! view -/
def viewV (L : Int) (bs : List Bx) (t : Nat) (y : Int) : Int := (if y = 0 then mnF (A1 bs t) (A2 L bs t) 0 (2 * bs.length + 2) else if y = 1 then mxF (A1 bs t) (A2 L bs t) 0 (2 * bs.length + 2) else if y = 2 then mxF (U1 bs t) (U2 L bs t) 0 (2 * bs.length + 2) else mnF (U1 bs t) (U2 L bs t) 0 (2 * bs.length + 2)) + 1000
def viewA (L : Int) (bs : List Bx) (t y : Int) : Int32 := if 0 ≤ t ∧ t ≤ 10 then (if 0 ≤ y ∧ y ≤ 3 then iI (viewV L bs t.toNat y) else -2) else -2
theorem a_view {L t y : Int} {bs : List Bx} {wh wc : Wd} (hL : 4 ≤ L ∧ L ≤ 12) (hv : Val L bs) (hc : CR L bs wc) (ht : ir t) (hy : ir y) {Q : Int32 → Wd → Wd → Prop} (hq : Q (viewA L bs t y) wh wc) : k_X3_view (iI t) (iI y) wh wc Q := by
  unfold viewA viewV at hq
  unfold k_X3_view
  refine s_isStep ht (fun h1 h2 => ⟨fun _ => ?_, fun h => absurd h (by decide)⟩) (fun h1 => ⟨fun h => absurd rfl h, fun _ => ?_⟩)
  · have hh : 0 ≤ t ∧ t ≤ 10 := ⟨h1, h2⟩
    rw [if_pos hh] at hq
    obtain ⟨t', rfl⟩ : ∃ t' : Nat, t = t' := ⟨t.toNat, by omega⟩
    rw [Int.toNat_natCast] at hq
    have e0 := iI_eq (a := y) (b := 0) hy (by constructor <;> omega)
    have e1 := iI_eq (a := y) (b := 1) hy (by constructor <;> omega)
    have e2 := iI_eq (a := y) (b := 2) hy (by constructor <;> omega)
    have e3 := iI_eq (a := y) (b := 3) hy (by constructor <;> omega)
    have ee : ∀ m : Int, iI m + 1000 = iI (m + 1000) := fun m => by simp only [li_0, li_1, li_2, li_3, li_4, li_5, li_6, li_7, li_8, li_9, li_10, li_11, li_12, li_13, li_14, li_15, li_16, li_20, li_24, li_25, li_26, li_31, li_40, li_41, li_100, li_169, li_600, li_1000, li_10000, li_100000, lm_1, lm_2, lm_3, lm_4, lm_5, lm_6, lm_600, lm_10000, lm_12, iI_add, iI_sub, iI_mul, iI_neg]
    refine ⟨fun h => s_leastAcross hL hv hc (by omega) ?_, fun h => s_greatestAcross hL hv hc (by omega) ?_, fun h => s_greatestUp hL hv hc (by omega) ?_, fun h => s_leastUp hL hv hc (by omega) ?_, fun ⟨n0, n1, n2, n3⟩ => ?_⟩
    · have hy0 := e0.mp h
      rw [if_pos (by omega), if_pos hy0] at hq
      rw [ee]; exact hq
    · have hy0 := e1.mp h
      rw [if_pos (by omega), if_neg (by omega), if_pos hy0] at hq
      rw [ee]; exact hq
    · have hy0 := e2.mp h
      rw [if_pos (by omega), if_neg (by omega), if_neg (by omega), if_pos hy0] at hq
      rw [ee]; exact hq
    · have hy0 := e3.mp h
      rw [if_pos (by omega), if_neg (by omega), if_neg (by omega), if_neg (by omega)] at hq
      rw [ee]; exact hq
    · have := mt e0.mpr n0
      have := mt e1.mpr n1
      have := mt e2.mpr n2
      have := mt e3.mpr n3
      rw [if_neg (by omega)] at hq
      exact hq
  · rw [if_neg h1] at hq
    exact hq
theorem a_viewM {L t y : Int} {bs : List Bx} {wm : Wd} (hL : 4 ≤ L ∧ L ≤ 12) (hv : Val L bs) (hr : MRow (wm 0) L bs) (ht : ir t) (hy : ir y) {Q : Int32 → Wd → Prop} (hq : ∀ wm' : Wd, (∀ r, r ≤ 2 → wm' r = wm r) → Q (viewA L bs t y) wm') : k_X4_view (iI t) (iI y) wm Q := by
  unfold viewA at hq
  by_cases h1 : 0 ≤ t ∧ t ≤ 10
  · rw [if_pos h1] at hq
    by_cases h2 : 0 ≤ y ∧ y ≤ 3
    · rw [if_pos h2] at hq
      obtain ⟨t', rfl⟩ : ∃ t' : Nat, t = t' := ⟨t.toNat, by omega⟩
      obtain ⟨y', rfl⟩ : ∃ y' : Nat, y = y' := ⟨y.toNat, by omega⟩
      rw [Int.toNat_natCast] at hq
      refine s_viewM hL hv hr (by omega) (by omega) (fun w' g => ?_)
      replace hq := hq w' (fun r h => g r (Or.inl h))
      unfold viewV at hq
      have e : ∀ A B C D : Int, (if (y' : Int) = 0 then A else if (y' : Int) = 1 then B else if (y' : Int) = 2 then C else D) = (if y' = 0 then A else if y' = 1 then B else if y' = 2 then C else D) := fun A B C D => by
        rcases (by omega : y' = 0 ∨ y' = 1 ∨ y' = 2 ∨ y' = 3) with h | h | h | h <;> subst h <;> rfl
      rw [e] at hq
      exact hq
    · rw [if_neg h2] at hq
      unfold k_X4_view
      refine s_in (l := 0) (h := 10) ht (by constructor <;> omega) (by constructor <;> omega) (fun _ _ => ⟨fun h => absurd h (by decide), fun _ => ?_⟩) (fun h => absurd h1 h)
      exact s_in (l := 0) (h := 3) hy (by constructor <;> omega) (by constructor <;> omega) (fun g1 g2 => absurd ⟨g1, g2⟩ h2) (fun _ => ⟨fun h => absurd rfl h, fun _ => hq wm (fun _ _ => rfl)⟩)
  · rw [if_neg h1] at hq
    unfold k_X4_view
    exact s_in (l := 0) (h := 10) ht (by constructor <;> omega) (by constructor <;> omega) (fun g1 g2 => absurd ⟨g1, g2⟩ h1) (fun _ => ⟨fun _ => hq wm (fun _ _ => rfl), fun h => absurd rfl h⟩)
/-! above -/
def abvV (s : F4) (y : Int) : Int32 := if s.1 < 0 then (-6) else if y = 0 then iI s.1 else if y = 1 then iI ((s.2.1.toNat / Nat.gcd s.2.1.toNat s.2.2.1.toNat : Nat) : Int) + 100000 else iI ((s.2.2.1.toNat / Nat.gcd s.2.1.toNat s.2.2.1.toNat : Nat) : Int)
def abvA (L : Int) (bs : List Bx) (t x y : Int) : Int32 := if 0 ≤ t ∧ t ≤ 10 then (if -600 ≤ x ∧ x ≤ 600 then (if 0 ≤ y ∧ y ≤ 2 then abvV (abv L bs t.toNat x (2 * bs.length + 2)) y else -2) else -2) else -2
theorem a_above {L t x y : Int} {bs : List Bx} {wh wc wt : Wd} (hL : 4 ≤ L ∧ L ≤ 12) (hv : Val L bs) (hc : CR L bs wc) (ht : ir t) (hx : ir x) (hy : ir y) {Q : Int32 → Wd → Wd → Wd → Prop} (hq : ∀ wt' : Wd, Q (abvA L bs t x y) wh wc wt') : k_X3_above (iI t) (iI x) (iI y) wh wc wt Q := by
  have hlen := Val_len hv
  unfold abvA at hq
  unfold k_X3_above
  rw [lm_600, li_600]
  refine s_isStep ht (fun h1 h2 => ⟨fun h => absurd h (by decide), fun _ => ?_⟩) (fun h1 => ⟨fun _ => ?_, fun h => absurd rfl h⟩)
  · have hh : 0 ≤ t ∧ t ≤ 10 := ⟨h1, h2⟩
    rw [if_pos hh] at hq
    refine s_isWithin (l := -600) (h := 600) hx (by constructor <;> omega) (by constructor <;> omega) (fun h3 h4 => ⟨fun h => absurd h (by decide), fun _ => ?_⟩) (fun h3 => ⟨fun _ => ?_, fun h => absurd rfl h⟩)
    · have hX : -600 ≤ x ∧ x ≤ 600 := ⟨h3, h4⟩
      rw [if_pos hX] at hq
      refine s_isWithin (l := 0) (h := 2) hy (by constructor <;> omega) (by constructor <;> omega) (fun h5 h6 => ⟨fun _ => ?_, fun h => absurd h (by decide)⟩) (fun h5 => ⟨fun h => absurd rfl h, fun _ => ?_⟩)
      · have hY : 0 ≤ y ∧ y ≤ 2 := ⟨h5, h6⟩
        rw [if_pos hY] at hq
        obtain ⟨t', rfl⟩ : ∃ t' : Nat, t = t' := ⟨t.toNat, by omega⟩
        rw [Int.toNat_natCast] at hq
        refine s_look hL hv hc (by omega) hX (fun w' hA => ?_)
        replace hq := hq w'
        unfold abvV at hq
        obtain ⟨s0, s1, s2, s3⟩ := hA
        generalize abv L bs t' x (2 * bs.length + 2) = S at *
        have e0 := iI_eq (a := y) (b := 0) hy (by constructor <;> omega)
        have e1 := iI_eq (a := y) (b := 1) hy (by constructor <;> omega)
        by_cases hn : S.1 < 0
        · rw [if_pos hn] at hq s0
          rw [s0]
          exact ⟨fun h => absurd rfl h, fun _ => hq⟩
        · rw [if_neg hn] at hq s0
          rw [s0, s1 hn, s2, s3]
          refine ⟨fun _ => ⟨fun h => ?_, fun h => ?_, fun ⟨n0, n1⟩ => ?_⟩, fun h => absurd h (by decide)⟩
          · rw [if_pos (e0.mp h)] at hq; exact hq
          · have := e1.mp h
            rw [if_neg (by omega), if_pos this] at hq; exact hq
          · rw [if_neg (mt e0.mpr n0), if_neg (mt e1.mpr n1)] at hq; exact hq
      · rw [if_neg h5] at hq
        exact hq wt
    · rw [if_neg h3] at hq
      exact hq wt
  · rw [if_neg h1] at hq
    exact hq wt
theorem a_aboveM {L t x y : Int} {bs : List Bx} {wm : Wd} (hL : 4 ≤ L ∧ L ≤ 12) (hv : Val L bs) (hr : MRow (wm 0) L bs) (ht : ir t) (hx : ir x) (hy : ir y) {Q : Int32 → Wd → Prop} (hq : ∀ wm' : Wd, (∀ r, r ≤ 2 → wm' r = wm r) → Q (abvA L bs t x y) wm') : k_X4_above (iI t) (iI x) (iI y) wm Q := by
  unfold abvA at hq
  by_cases h1 : 0 ≤ t ∧ t ≤ 10
  · rw [if_pos h1] at hq
    by_cases h2 : -600 ≤ x ∧ x ≤ 600
    · rw [if_pos h2] at hq
      by_cases h3 : 0 ≤ y ∧ y ≤ 2
      · rw [if_pos h3] at hq
        obtain ⟨t', rfl⟩ : ∃ t' : Nat, t = t' := ⟨t.toNat, by omega⟩
        obtain ⟨y', rfl⟩ : ∃ y' : Nat, y = y' := ⟨y.toNat, by omega⟩
        rw [Int.toNat_natCast] at hq
        refine s_aboveM hL hv hr (by omega) h2 (by omega) (fun w' g => ?_)
        replace hq := hq w' g
        unfold abvV at hq
        have e : ∀ A B C : Int32, (if (y' : Int) = 0 then A else if (y' : Int) = 1 then B else C) = (if y' = 0 then A else if y' = 1 then B else C) := fun A B C => by
          rcases (by omega : y' = 0 ∨ y' = 1 ∨ y' = 2) with h | h | h <;> subst h <;> rfl
        rw [e] at hq
        exact hq
      · rw [if_neg h3] at hq
        unfold k_X4_above
        rw [lm_600, li_600]
        refine s_in (l := 0) (h := 10) ht (by constructor <;> omega) (by constructor <;> omega) (fun _ _ => ⟨fun h => absurd h (by decide), fun _ => ?_⟩) (fun h => absurd h1 h)
        refine s_in (l := -600) (h := 600) hx (by constructor <;> omega) (by constructor <;> omega) (fun _ _ => ⟨fun h => absurd h (by decide), fun _ => ?_⟩) (fun h => absurd h2 h)
        exact s_in (l := 0) (h := 2) hy (by constructor <;> omega) (by constructor <;> omega) (fun g1 g2 => absurd ⟨g1, g2⟩ h3) (fun _ => ⟨fun h => absurd rfl h, fun _ => hq wm (fun _ _ => rfl)⟩)
    · rw [if_neg h2] at hq
      unfold k_X4_above
      rw [lm_600, li_600]
      refine s_in (l := 0) (h := 10) ht (by constructor <;> omega) (by constructor <;> omega) (fun _ _ => ⟨fun h => absurd h (by decide), fun _ => ?_⟩) (fun h => absurd h1 h)
      exact s_in (l := -600) (h := 600) hx (by constructor <;> omega) (by constructor <;> omega) (fun g1 g2 => absurd ⟨g1, g2⟩ h2) (fun _ => ⟨fun _ => hq wm (fun _ _ => rfl), fun h => absurd rfl h⟩)
  · rw [if_neg h1] at hq
    unfold k_X4_above
    exact s_in (l := 0) (h := 10) ht (by constructor <;> omega) (by constructor <;> omega) (fun g1 g2 => absurd ⟨g1, g2⟩ h1) (fun _ => ⟨fun _ => hq wm (fun _ _ => rfl), fun h => absurd rfl h⟩)
/-! apart -/
def aprtA (bs : List Bx) (i j t : Int) : Int32 := if 0 ≤ i ∧ i < 2 * bs.length + 2 then (if 0 ≤ j ∧ j < 2 * bs.length + 2 then (if 0 ≤ t ∧ t ≤ 10 then ((iI (acr t.toNat (fp bs i.toNat) (fq bs i.toNat)) - iI (acr t.toNat (fp bs j.toNat) (fq bs j.toNat))) * (iI (acr t.toNat (fp bs i.toNat) (fq bs i.toNat)) - iI (acr t.toNat (fp bs j.toNat) (fq bs j.toNat)))) + ((iI (upz t.toNat (fq bs i.toNat)) - iI (upz t.toNat (fq bs j.toNat))) * (iI (upz t.toNat (fq bs i.toNat)) - iI (upz t.toNat (fq bs j.toNat)))) else -2) else -1) else -1
theorem a_apart {L i j t : Int} {bs : List Bx} {wh wc : Wd} (hv : Val L bs) (hc : CR L bs wc) (hi : ir i) (hj : ir j) (ht : ir t) {Q : Int32 → Wd → Wd → Prop} (hq : Q (aprtA bs i j t) wh wc) : k_X3_apart (iI i) (iI j) (iI t) wh wc Q := by
  have hlen := Val_len hv
  unfold aprtA at hq
  unfold k_X3_apart
  refine s_hasFace hlen hc.2.1 hi (fun h1 h2 => ⟨fun h => absurd h (by decide), fun _ => ?_⟩) (fun h1 => ⟨fun _ => ?_, fun h => absurd rfl h⟩)
  · have hI : 0 ≤ i ∧ i < 2 * bs.length + 2 := ⟨h1, h2⟩
    rw [if_pos hI] at hq
    refine s_hasFace hlen hc.2.1 hj (fun h3 h4 => ⟨fun _ => ?_, fun h => absurd h (by decide)⟩) (fun h3 => ⟨fun h => absurd rfl h, fun _ => ?_⟩)
    · have hJ : 0 ≤ j ∧ j < 2 * bs.length + 2 := ⟨h3, h4⟩
      rw [if_pos hJ] at hq
      refine s_isStep ht (fun h5 h6 => ⟨fun _ => ?_, fun h => absurd h (by decide)⟩) (fun h5 => ⟨fun h => absurd rfl h, fun _ => ?_⟩)
      · have hT : 0 ≤ t ∧ t ≤ 10 := ⟨h5, h6⟩
        rw [if_pos hT] at hq
        obtain ⟨t', rfl⟩ : ∃ t' : Nat, t = t' := ⟨t.toNat, by omega⟩
        obtain ⟨i', rfl⟩ : ∃ i' : Nat, i = i' := ⟨i.toNat, by omega⟩
        obtain ⟨j', rfl⟩ : ∃ j' : Nat, j = j' := ⟨j.toNat, by omega⟩
        rw [Int.toNat_natCast, Int.toNat_natCast, Int.toNat_natCast] at hq
        have b1 : i' < 2 * bs.length + 2 := by omega
        have b2 : j' < 2 * bs.length + 2 := by omega
        have b3 : t' < 11 := by omega
        exact s_firstP hv hc b1 (s_firstQ hv hc b1 (s_acrossOf b3 (s_firstP hv hc b2 (s_firstQ hv hc b2 (s_acrossOf b3 (s_firstQ hv hc b1 (s_upOf b3 (s_firstQ hv hc b2 (s_upOf b3 hq)))))))))
      · rw [if_neg h5] at hq
        exact hq
    · rw [if_neg h3] at hq
      exact hq
  · rw [if_neg h1] at hq
    exact hq
theorem a_apartM {L i j t : Int} {bs : List Bx} {wm : Wd} (hL : 4 ≤ L ∧ L ≤ 12) (hv : Val L bs) (hr : MRow (wm 0) L bs) (hi : ir i) (hj : ir j) (ht : ir t) {Q : Int32 → Wd → Prop} (hq : ∀ wm' : Wd, (∀ r, r ≤ 2 → wm' r = wm r) → Q (aprtA bs i j t) wm') : k_X4_apart (iI i) (iI j) (iI t) wm Q := by
  have hlen := Val_len hv
  unfold aprtA at hq
  unfold k_X4_apart
  refine s_lay hL hv hr (fun w g m => ?_)
  replace hq := hq w (fun r h => g r (Or.inl h))
  refine s_isFaceM (L := L) hlen m.1 hi (fun h1 h2 => ⟨fun h => absurd h (by decide), fun _ => ?_⟩) (fun h1 => ⟨fun _ => ?_, fun h => absurd rfl h⟩)
  · have hI : 0 ≤ i ∧ i < 2 * bs.length + 2 := ⟨h1, h2⟩
    rw [if_pos hI] at hq
    refine s_isFaceM (L := L) hlen m.1 hj (fun h3 h4 => ⟨fun _ => ?_, fun h => absurd h (by decide)⟩) (fun h3 => ⟨fun h => absurd rfl h, fun _ => ?_⟩)
    · have hJ : 0 ≤ j ∧ j < 2 * bs.length + 2 := ⟨h3, h4⟩
      rw [if_pos hJ] at hq
      refine s_in (l := 0) (h := 10) ht (by constructor <;> omega) (by constructor <;> omega) (fun h5 h6 => ⟨fun _ => ?_, fun h => absurd h (by decide)⟩) (fun h5 => ⟨fun h => absurd rfl h, fun _ => ?_⟩)
      · have hT : 0 ≤ t ∧ t ≤ 10 := ⟨h5, h6⟩
        rw [if_pos hT] at hq
        obtain ⟨t', rfl⟩ : ∃ t' : Nat, t = t' := ⟨t.toNat, by omega⟩
        obtain ⟨i', rfl⟩ : ∃ i' : Nat, i = i' := ⟨i.toNat, by omega⟩
        obtain ⟨j', rfl⟩ : ∃ j' : Nat, j = j' := ⟨j.toNat, by omega⟩
        rw [Int.toNat_natCast, Int.toNat_natCast, Int.toNat_natCast] at hq
        have b1 : i' < 2 * bs.length + 2 := by omega
        have b2 : j' < 2 * bs.length + 2 := by omega
        have b3 : t' < 11 := by omega
        obtain ⟨-, f2, f3, -⟩ := m.2.2.1 i' b1
        obtain ⟨-, f5, f6, -⟩ := m.2.2.1 j' b2
        have i1 := inN (n := i') (N := 18) (by omega) (by decide)
        have i2 := inN (n := j') (N := 18) (by omega) (by decide)
        rw [tnN (by omega), tnN (by omega), f2, f3, f5, f6]
        exact ⟨i1, i1, s_acrossM b3 ⟨i2, i2, s_acrossM b3 ⟨i1, s_upM b3 ⟨i2, s_upM b3 hq⟩⟩⟩⟩
      · rw [if_neg h5] at hq
        exact hq
    · rw [if_neg h3] at hq
      exact hq
  · rw [if_neg h1] at hq
    exact hq
