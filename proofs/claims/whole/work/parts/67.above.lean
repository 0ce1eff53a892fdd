/-! what is above an ACROSS: the fold over the faces that both sides make, the model's fractions stretched by sc -/
def ab (c : Int) : Int := if 0 ≤ c then c else 0 - c
def fwd (bs : List Bx) (t : Nat) (x : Int) (j : Nat) : Int := if 0 < cZ t then x - 25 * fp bs j else -(x - 25 * fp bs j)
def ovB (L : Int) (bs : List Bx) (t : Nat) (x : Int) (j : Nat) : Bool :=
  if fw bs j = 0 then decide (A1 bs t j ≤ x ∧ x ≤ A2 L bs t j) else if cZ t = 0 then decide (x - 25 * fp bs j = 0) else decide (ab (cZ t) * fq bs j ≤ fwd bs t x j ∧ fwd bs t x j ≤ ab (cZ t) * eQ L bs j)
def hu (L : Int) (bs : List Bx) (t : Nat) (x : Int) (j : Nat) : Int := if fw bs j = 0 then upz t (fq bs j) else if cZ t = 0 then upz t (eQ L bs j) else upz t (fwd bs t x j)
def hl (bs : List Bx) (t j : Nat) : Int := if fw bs j = 0 then 1 else if cZ t = 0 then 1 else ab (cZ t)
def sc (L : Int) (bs : List Bx) (t j : Nat) : Int := if fw bs j = 0 then 25 * fl L bs j else if cZ t = 0 then 1 else fl L bs j
abbrev F4 : Type := Int × Int × Int × Int
def abv (L : Int) (bs : List Bx) (t : Nat) (x : Int) : Nat → F4
  | 0 => (-6, 0, 1, 1)
  | m + 1 => if ovB L bs t x m = true ∧ ((abv L bs t x m).1 < 0 ∨ (abv L bs t x m).2.1 * hl bs t m < hu L bs t x m * (abv L bs t x m).2.2.1) then ((m : Int), hu L bs t x m, hl bs t m, sc L bs t m) else abv L bs t x m
theorem ab_bd {t : Nat} (ht : t < 11) : 0 ≤ ab (cZ t) ∧ ab (cZ t) ≤ 25 ∧ (cZ t ≠ 0 → 1 ≤ ab (cZ t)) := by
  have := cZ_bd t ht
  unfold ab
  split <;> omega
theorem mul_le25 {a b N : Int} (ha : 0 ≤ a ∧ a ≤ 25) (hb : 0 ≤ b ∧ b ≤ N) : 0 ≤ a * b ∧ a * b ≤ 25 * N := by
  refine ⟨Int.mul_nonneg ha.1 hb.1, ?_⟩
  exact Int.mul_le_mul ha.2 hb.2 hb.1 (by decide)
theorem huhl_bd {L : Int} (hL : 4 ≤ L ∧ L ≤ 12) {bs : List Bx} (hv : Val L bs) {t : Nat} (ht : t < 11) {x : Int} (j : Nat) (ho : ovB L bs t x j = true) : (0 ≤ hu L bs t x j ∧ hu L bs t x j ≤ 7500) ∧ (1 ≤ hl bs t j ∧ hl bs t j ≤ 25) ∧ (1 ≤ sc L bs t j ∧ sc L bs t j ≤ 300) := by
  obtain ⟨b1, b2, b3, b4, b5⟩ := ends_bd hL hv j
  obtain ⟨f1, f2, f3, f4⟩ := ftri (L := L) (by omega) hv j
  have hab := ab_bd ht
  unfold ovB at ho
  unfold hu hl sc
  by_cases h1 : fw bs j = 0
  · rw [if_pos h1, if_pos h1, if_pos h1]
    have := up_bd ht b2
    omega
  · rw [if_neg h1, if_neg h1, if_neg h1]
    rw [if_neg h1] at ho
    by_cases h2 : cZ t = 0
    · rw [if_pos h2, if_pos h2, if_pos h2]
      have := up_bd ht (q := eQ L bs j) (by omega)
      omega
    · rw [if_neg h2, if_neg h2, if_neg h2]
      rw [if_neg h2] at ho
      have ho := of_decide_eq_true ho
      have m1 := mul_le25 (a := ab (cZ t)) (b := fq bs j) (N := 12) (by omega) (by omega)
      have m2 := mul_le25 (a := ab (cZ t)) (b := eQ L bs j) (N := 12) (by omega) (by omega)
      have := up_bd ht (q := fwd bs t x j) (by omega)
      have := hab.2.2 h2
      omega
def F4bd (s : F4) : Prop := (-6 ≤ s.1 ∧ s.1 ≤ 20) ∧ (0 ≤ s.2.1 ∧ s.2.1 ≤ 7500) ∧ (1 ≤ s.2.2.1 ∧ s.2.2.1 ≤ 25) ∧ (1 ≤ s.2.2.2 ∧ s.2.2.2 ≤ 300)
theorem abv_bd {L : Int} (hL : 4 ≤ L ∧ L ≤ 12) {bs : List Bx} (hv : Val L bs) {t : Nat} (ht : t < 11) {x : Int} : ∀ m, m ≤ 14 → F4bd (abv L bs t x m)
  | 0, _ => by unfold F4bd abv; dsimp only; omega
  | m + 1, hm => by
    have ih := abv_bd hL hv ht (x := x) m (by omega)
    unfold abv
    split
    · rename_i h
      have := huhl_bd hL hv ht m h.1
      unfold F4bd
      dsimp only
      omega
    · exact ih
/-! the program -/
def TR (w : Wd) (s : F4) : Prop := w 0 0 = (if s.1 < 0 then 0 else 1) ∧ (¬ s.1 < 0 → w 1 0 = iI s.1) ∧ w 2 0 = iI s.2.1 ∧ w 3 0 = iI s.2.2.1
theorem s_meetT {w : Wd} {s : F4} (hs : TR w s) (hb : F4bd s) {j : Nat} {u l z : Int} (hu : 0 ≤ u ∧ u ≤ 7500) (hl : 1 ≤ l ∧ l ≤ 25) {Q : Wd → Prop} (hq : ∀ w' : Wd, TR w' (if s.1 < 0 ∨ s.2.1 * l < u * s.2.2.1 then ((j : Int), u, l, z) else s) → Q w') : k_X2_meet (iI j) (iI u) (iI l) w Q := by
  obtain ⟨h0, h1, h2, h3⟩ := hs
  unfold F4bd at hb
  unfold k_X2_meet
  have new : (s.1 < 0 ∨ s.2.1 * l < u * s.2.2.1) → k_X2_meet_23 Q (iI j) (iI u) (iI l) w := fun hc => by
    unfold k_X2_meet_23
    refine hq _ ?_
    rw [if_pos hc]
    refine ⟨?_, fun _ => ?_, ?_, ?_⟩
    · rw [up2_ne (by decide), up2_ne (by decide), up2_ne (by decide), up2_at, if_pos rfl, if_neg (by dsimp only; omega)]
    · rw [up2_ne (by decide), up2_ne (by decide), up2_at, if_pos rfl]
    · rw [up2_ne (by decide), up2_at, if_pos rfl]
    · rw [up2_at, if_pos rfl]
  rw [h2, h3, iI_mul, iI_mul]
  have m1 := Int.mul_nonneg hb.2.1.1 (show 0 ≤ l by omega)
  have m2 := Int.mul_le_mul hb.2.1.2 hl.2 (by omega) (by decide)
  have m3 := Int.mul_nonneg hu.1 (show 0 ≤ s.2.2.1 by omega)
  have m4 := Int.mul_le_mul hu.2 hb.2.2.1.2 (by omega) (by decide)
  rw [iI_lt (by constructor <;> omega) (by constructor <;> omega)]
  by_cases hn : s.1 < 0
  · rw [if_pos hn] at h0
    rw [h0]
    exact ⟨fun _ => new (Or.inl hn), fun h => absurd rfl h⟩
  · have h0' := h0
    rw [if_neg hn] at h0'
    rw [h0']
    refine ⟨fun h => absurd h (by decide), fun _ => ⟨fun h => new (Or.inr h), fun h => hq w ?_⟩⟩
    rw [if_neg (by omega)]
    exact ⟨h0, h1, h2, h3⟩
theorem abv_step {L : Int} {bs : List Bx} {t : Nat} {x : Int} {m : Nat} (ho : ovB L bs t x m = true) : abv L bs t x (m + 1) = if (abv L bs t x m).1 < 0 ∨ (abv L bs t x m).2.1 * hl bs t m < hu L bs t x m * (abv L bs t x m).2.2.1 then ((m : Int), hu L bs t x m, hl bs t m, sc L bs t m) else abv L bs t x m := by
  rw [abv]
  congr 1
  rw [ho]
  simp
theorem abv_skip {L : Int} {bs : List Bx} {t : Nat} {x : Int} {m : Nat} (ho : ¬ ovB L bs t x m = true) : abv L bs t x (m + 1) = abv L bs t x m := by
  rw [abv, if_neg (fun h => ho h.1)]
theorem s_meetLevel {L : Int} {bs : List Bx} {wc wt : Wd} {t m : Nat} {x : Int} (hL : 4 ≤ L ∧ L ≤ 12) (hv : Val L bs) (hc : CR L bs wc) (ht : t < 11) (hx : -600 ≤ x ∧ x ≤ 600) (hm : m < 2 * bs.length + 2) (hw : fw bs m = 0) (hs : TR wt (abv L bs t x m)) {Q : Wd → Wd → Prop} (hq : ∀ w' : Wd, TR w' (abv L bs t x (m + 1)) → Q w' wc) : k_X2_meetLevel (iI m) (iI t) (iI x) wt wc Q := by
  have hlen := Val_len hv
  have hau := AU_bd hL hv ht m
  unfold k_X2_meetLevel
  refine s_firstP hv hc hm (s_firstQ hv hc hm (s_acrossOf ht ?_))
  refine s_lastP hv hc hm (s_lastQ hv hc hm (s_acrossOf ht ?_))
  change k_X3_isWithin (iI x) (iI (A1 bs t m)) (iI (A2 L bs t m)) _
  have hov : ovB L bs t x m = decide (A1 bs t m ≤ x ∧ x ≤ A2 L bs t m) := by unfold ovB; rw [if_pos hw]
  refine s_isWithin (by constructor <;> omega) (by constructor <;> omega) (by constructor <;> omega) (fun h1 h2 => ⟨fun h => absurd h (by decide), fun _ => ?_⟩) (fun h1 => ⟨fun _ => ?_, fun h => absurd rfl h⟩)
  · have ho : ovB L bs t x m = true := by rw [hov]; exact decide_eq_true ⟨h1, h2⟩
    have hb := huhl_bd hL hv ht m ho
    refine s_firstQ hv hc hm (s_upOf ht ?_)
    have e1 : hu L bs t x m = upz t (fq bs m) := by unfold hu; rw [if_pos hw]
    have e2 : hl bs t m = 1 := by unfold hl; rw [if_pos hw]
    rw [e1] at hb
    refine s_meetT (l := 1) (z := sc L bs t m) hs (abv_bd hL hv ht m (by omega)) hb.1 (by decide) (fun w' h => hq w' ?_)
    rw [abv_step ho, e1, e2]
    exact h
  · refine hq wt ?_
    rw [abv_skip (by rw [hov]; simp only [decide_eq_true_eq]; exact h1)]
    exact hs
theorem s_meetSlope {L : Int} {bs : List Bx} {wc wt : Wd} {t m : Nat} {x : Int} (hL : 4 ≤ L ∧ L ≤ 12) (hv : Val L bs) (hc : CR L bs wc) (ht : t < 11) (hx : -600 ≤ x ∧ x ≤ 600) (hm : m < 2 * bs.length + 2) (hw : fw bs m = 1) (hs : TR wt (abv L bs t x m)) {Q : Wd → Wd → Prop} (hq : ∀ w' : Wd, TR w' (abv L bs t x (m + 1)) → Q w' wc) : k_X2_meetSlope (iI m) (iI t) (iI x) wt wc Q := by
  have hlen := Val_len hv
  obtain ⟨b1, b2, b3, b4, b5⟩ := ends_bd hL hv m
  have hcb := cZ_bd t ht
  have hab := ab_bd ht
  have hw0 : ¬ fw bs m = 0 := by omega
  have hF := abv_bd hL hv ht (x := x) m (by omega)
  unfold k_X2_meetSlope
  refine s_acrossOf (p := 0) (q := 1) ht ?_
  have ec : acr t 0 1 = cZ t := by unfold acr; omega
  rw [ec]
  refine s_firstP hv hc hm ?_
  have eab : (if iI 0 ≤ iI (cZ t) then iI (cZ t) else iI 0 - iI (cZ t)) = iI (ab (cZ t)) := by
    have hle := iI_le (a := 0) (b := cZ t) (by constructor <;> omega) (by constructor <;> omega)
    unfold ab
    by_cases h : 0 ≤ cZ t
    · rw [if_pos (hle.mpr h), if_pos h]
    · rw [if_neg (mt hle.mp h), if_neg h, iI_sub]
  rw [li_25, iI_mul, iI_sub, li_0, iI_neg, eab, iI_eq (by constructor <;> omega) (by constructor <;> omega), iI_eq (by constructor <;> omega) (by constructor <;> omega), iI_le (by constructor <;> omega) (by constructor <;> omega)]
  by_cases hz : cZ t = 0
  · refine ⟨fun h => absurd hz h, fun _ => ⟨fun h => ?_, fun h => ?_⟩⟩
    · refine hq wt ?_
      rw [abv_skip (by unfold ovB; rw [if_neg hw0, if_pos hz]; simp only [decide_eq_true_eq]; exact h)]
      exact hs
    · have ho : ovB L bs t x m = true := by unfold ovB; rw [if_neg hw0, if_pos hz]; exact decide_eq_true h
      have hb := huhl_bd hL hv ht m ho
      refine s_lastQ hv hc hm (s_upOf ht ?_)
      have e1 : hu L bs t x m = upz t (eQ L bs m) := by unfold hu; rw [if_neg hw0, if_pos hz]
      have e2 : hl bs t m = 1 := by unfold hl; rw [if_neg hw0, if_pos hz]
      rw [e1] at hb
      refine s_meetT (l := 1) (z := sc L bs t m) hs hF hb.1 (by decide) (fun w' h => hq w' ?_)
      rw [abv_step ho, e1, e2]
      exact h
  · have main : k_X2_meetSlope_67 Q (iI m) (iI t) (iI (ab (cZ t))) (iI (fwd bs t x m)) wt wc := by
      unfold k_X2_meetSlope_67
      have hfb : -1000 ≤ fwd bs t x m ∧ fwd bs t x m ≤ 1000 := by unfold fwd; split <;> omega
      have m1 := mul_le25 (a := ab (cZ t)) (b := fq bs m) (N := 12) (by omega) (by omega)
      have m2 := mul_le25 (a := ab (cZ t)) (b := eQ L bs m) (N := 12) (by omega) (by omega)
      have hov : ovB L bs t x m = decide (ab (cZ t) * fq bs m ≤ fwd bs t x m ∧ fwd bs t x m ≤ ab (cZ t) * eQ L bs m) := by unfold ovB; rw [if_neg hw0, if_neg hz]
      refine s_firstQ hv hc hm (s_lastQ hv hc hm ?_)
      rw [iI_mul, iI_mul]
      refine s_isWithin (by constructor <;> omega) (by constructor <;> omega) (by constructor <;> omega) (fun h1 h2 => ⟨fun h => absurd h (by decide), fun _ => ?_⟩) (fun h1 => ⟨fun _ => ?_, fun h => absurd rfl h⟩)
      · have ho : ovB L bs t x m = true := by rw [hov]; exact decide_eq_true ⟨h1, h2⟩
        have hb := huhl_bd hL hv ht m ho
        refine s_upOf ht ?_
        have e1 : hu L bs t x m = upz t (fwd bs t x m) := by unfold hu; rw [if_neg hw0, if_neg hz]
        have e2 : hl bs t m = ab (cZ t) := by unfold hl; rw [if_neg hw0, if_neg hz]
        rw [e1, e2] at hb
        refine s_meetT (l := ab (cZ t)) (z := sc L bs t m) hs hF hb.1 hb.2.1 (fun w' h => hq w' ?_)
        rw [abv_step ho, e1, e2]
        exact h
      · refine hq wt ?_
        rw [abv_skip (by rw [hov]; simp only [decide_eq_true_eq]; exact h1)]
        exact hs
    refine ⟨fun _ => ⟨fun h => ?_, fun h => ?_⟩, fun h => absurd h hz⟩
    · have e : fwd bs t x m = -(x - 25 * fp bs m) := by unfold fwd; rw [if_neg (by omega)]
      rw [← e]
      exact main
    · have e : fwd bs t x m = x - 25 * fp bs m := by unfold fwd; rw [if_pos (by omega)]
      rw [← e]
      exact main
theorem nI_div {a d : Nat} (ha : a < 2147483648) (h0 : 0 < d) (hd : d < 2147483648) : iI (a : Int) / iI (d : Int) = iI ((a / d : Nat) : Int) := by
  rw [← iI_nI, ← iI_nI, ← iI_nI]
  exact pk_div ha h0 hd
theorem nI_rem {a d : Nat} (ha : a < 2147483648) (h0 : 0 < d) (hd : d < 2147483648) : iI (a : Int) - iI (a : Int) / iI (d : Int) * iI (d : Int) = iI ((a % d : Nat) : Int) := by
  rw [← iI_nI, ← iI_nI, ← iI_nI]
  exact pk_rem ha h0 hd
/-- reduce: the greatest common divisor is taken out -/
theorem s_reduce {w : Wd} {u l : Nat} (h2 : w 2 0 = iI u) (h3 : w 3 0 = iI l) (hu : u ≤ 7500) (hl : 1 ≤ l ∧ l ≤ 25) {Q : Wd → Prop} (hq : ∀ w' : Wd, (∀ r, r ≠ 2 → r ≠ 3 → w' r = w r) → w' 2 0 = iI ((u / Nat.gcd u l : Nat) : Int) → w' 3 0 = iI ((l / Nat.gcd u l : Nat) : Int) → Q w') : k_X2_reduce w Q := by
  unfold k_X2_reduce
  rw [h3]
  have hgl : Nat.gcd u l ≤ l := Nat.gcd_le_right u (by omega)
  have hg0 : 0 < Nat.gcd u l := Nat.gcd_pos_of_pos_right u (by omega)
  refine lpf_run (fun v => ∃ d : Nat, Nat.gcd u l ≤ d ∧ d ≤ l ∧ v.1 = iI d ∧ v.2 = w) (fun v => v.1.toNatClampNeg) _ ⟨l, hgl, Nat.le_refl _, rfl, rfl⟩ ?_
  rintro K ⟨a1, w1⟩ ⟨d, hd1, hd2, e1, e2⟩ ih
  dsimp only at e1 e2 ih ⊢
  subst e1; subst e2
  have next : Nat.gcd u l < d → k_X2_reduce_49 K Q (iI d) w1 := fun hlt => by
    unfold k_X2_reduce_49
    have e : iI (d : Int) + (-1) = iI ((d - 1 : Nat) : Int) := by
      simp only [li_0, li_1, li_2, li_3, li_4, li_5, li_6, li_7, li_8, li_9, li_10, li_11, li_12, li_13, li_14, li_15, li_16, li_20, li_24, li_25, li_26, li_31, li_40, li_41, li_100, li_169, li_600, li_1000, li_10000, li_100000, lm_1, lm_2, lm_3, lm_4, lm_5, lm_6, lm_600, lm_10000, lm_12, iI_add, iI_sub, iI_mul, iI_neg]
      congr 1; omega
    rw [e]
    refine ih _ ⟨d - 1, by omega, by omega, rfl, rfl⟩ ?_
    dsimp only
    rw [tnN (by omega), tnN (by omega)]
    omega
  unfold k_X2_reduce_5
  rw [h2, h3, up2_ne (by decide), h3, nI_rem (by omega) (by omega) (by omega), nI_rem (by omega) (by omega) (by omega), nI_div (by omega) (by omega) (by omega), nI_div (by omega) (by omega) (by omega)]
  have hm1 := Nat.mod_lt u (show 0 < d by omega)
  have hm2 := Nat.mod_lt l (show 0 < d by omega)
  rw [li_1, li_0, iI_le (by constructor <;> omega) (by constructor <;> omega), iI_eq (by constructor <;> omega) (by constructor <;> omega), iI_eq (by constructor <;> omega) (by constructor <;> omega), iI_eq (by constructor <;> omega) (by constructor <;> omega)]
  have hdne : ¬ (d : Int) = 0 := by omega
  refine ⟨fun h => ?_, fun h => ⟨hdne, fun h1 => ?_, fun h1 => ⟨hdne, fun h3' => ?_, fun h3' => ⟨hdne, hdne, ?_⟩⟩⟩⟩
  · have hg1 : Nat.gcd u l = 1 := by omega
    refine hq w1 (fun _ _ _ => rfl) ?_ ?_
    · rw [hg1, Nat.div_one, h2]
    · rw [hg1, Nat.div_one, h3]
  · apply next
    rcases Nat.lt_or_ge (Nat.gcd u l) d with h4 | h4
    · exact h4
    · exfalso
      have : d = Nat.gcd u l := by omega
      have hdv : d ∣ u := this ▸ Nat.gcd_dvd_left u l
      have := Nat.mod_eq_zero_of_dvd hdv
      omega
  · apply next
    rcases Nat.lt_or_ge (Nat.gcd u l) d with h4 | h4
    · exact h4
    · exfalso
      have : d = Nat.gcd u l := by omega
      have hdv : d ∣ l := this ▸ Nat.gcd_dvd_right u l
      have := Nat.mod_eq_zero_of_dvd hdv
      omega
  · have hdg : d ∣ Nat.gcd u l := Nat.dvd_gcd (Nat.dvd_of_mod_eq_zero (by omega)) (Nat.dvd_of_mod_eq_zero (by omega))
    have hle := Nat.le_of_dvd hg0 hdg
    have he : d = Nat.gcd u l := by omega
    refine hq _ (fun r r2 r3 => ?_) ?_ ?_
    · rw [up2_ne r3, up2_ne r2]
    · rw [up2_ne (by decide), up2_at, if_pos rfl, he]
    · rw [up2_at, if_pos rfl, he]
/-- what an answer tells of the fold's end -/
def AR (w : Wd) (s : F4) : Prop := w 0 0 = (if s.1 < 0 then 0 else 1) ∧ (¬ s.1 < 0 → w 1 0 = iI s.1) ∧ w 2 0 = iI ((s.2.1.toNat / Nat.gcd s.2.1.toNat s.2.2.1.toNat : Nat) : Int) ∧ w 3 0 = iI ((s.2.2.1.toNat / Nat.gcd s.2.1.toNat s.2.2.1.toNat : Nat) : Int)
theorem s_look {L : Int} {bs : List Bx} {wc wt : Wd} {t : Nat} {x : Int} (hL : 4 ≤ L ∧ L ≤ 12) (hv : Val L bs) (hc : CR L bs wc) (ht : t < 11) (hx : -600 ≤ x ∧ x ≤ 600) {Q : Wd → Wd → Prop} (hq : ∀ w' : Wd, AR w' (abv L bs t x (2 * bs.length + 2)) → Q w' wc) : k_X2_look (iI t) (iI x) wt wc Q := by
  have hlen := Val_len hv
  unfold k_X2_look
  refine s_isStep (by constructor <;> omega) (fun _ _ => ⟨fun _ => ?_, fun h => absurd h (by decide)⟩) (fun h => absurd ⟨by omega, by omega⟩ h)
  have h0 : TR (up2 (up2 (up2 (up2 wt 0 0 0) 1 0 0) 2 0 0) 3 0 1) (abv L bs t x 0) := by
    refine ⟨?_, fun h => absurd (show (-6 : Int) < 0 by decide) h, ?_, ?_⟩
    · rw [up2_ne (by decide), up2_ne (by decide), up2_ne (by decide), up2_at, if_pos rfl]
      exact (if_pos (show (abv L bs t x 0).1 < 0 from (by decide : (-6 : Int) < 0))).symm
    · rw [up2_ne (by decide), up2_at, if_pos rfl]; rfl
    · rw [up2_at, if_pos rfl]; rfl
  refine lpf_run (fun u => ∃ m : Nat, m ≤ 2 * bs.length + 2 ∧ u.1 = iI t ∧ u.2.1 = iI x ∧ u.2.2.1 = iI m ∧ TR u.2.2.2.1 (abv L bs t x m) ∧ u.2.2.2.2 = wc) (fun u => 2 * bs.length + 2 - u.2.2.1.toNatClampNeg) _ ⟨0, by omega, rfl, rfl, rfl, h0, rfl⟩ ?_
  rintro K ⟨a1, a2, a3, w1, w2⟩ ⟨m, hm, e1, e2, e3, hs, e5⟩ ih
  dsimp only at e1 e2 e3 hs e5 ih ⊢
  subst e1; subst e2; subst e3; subst e5
  have ee : iI (m : Int) + 1 = iI ((m + 1 : Nat) : Int) := by simp only [li_0, li_1, li_2, li_3, li_4, li_5, li_6, li_7, li_8, li_9, li_10, li_11, li_12, li_13, li_14, li_15, li_16, li_20, li_24, li_25, li_26, li_31, li_40, li_41, li_100, li_169, li_600, li_1000, li_10000, li_100000, lm_1, lm_2, lm_3, lm_4, lm_5, lm_6, lm_600, lm_10000, lm_12, iI_add, iI_sub, iI_mul, iI_neg]; rfl
  unfold k_X2_look_31
  refine s_facesC hc ?_
  rw [iI_le (by constructor <;> omega) (by constructor <;> omega)]
  refine ⟨fun h => ?_, fun h => ?_⟩
  · have hmm : m = 2 * bs.length + 2 := by omega
    subst hmm
    have hF := abv_bd hL hv ht (x := x) (2 * bs.length + 2) (by omega)
    unfold F4bd at hF
    obtain ⟨s0, s1, s2, s3⟩ := hs
    refine s_reduce (u := (abv L bs t x (2 * bs.length + 2)).2.1.toNat) (l := (abv L bs t x (2 * bs.length + 2)).2.2.1.toNat) ?_ ?_ (by omega) (by omega) (fun w' g g2 g3 => hq w' ⟨?_, fun h => ?_, g2, g3⟩)
    · rw [s2]; congr 1; omega
    · rw [s3]; congr 1; omega
    · rw [g 0 (by decide) (by decide)]; exact s0
    · rw [g 1 (by decide) (by decide)]; exact s1 h
  · have next : ∀ w' : Wd, TR w' (abv L bs t x (m + 1)) → k_X2_look_83 K Q (iI t) (iI x) (iI m) w' w2 := fun w' h' => by
      unfold k_X2_look_83
      rw [ee]
      refine ih _ ⟨m + 1, by omega, rfl, rfl, rfl, h', rfl⟩ ?_
      dsimp only
      rw [tnN (by omega), tnN (by omega)]
      omega
    refine s_hasFace hlen hc.2.1 (by constructor <;> omega) (fun _ _ => ⟨fun _ => ⟨inN (by omega) (by decide), ?_⟩, fun h => absurd h (by decide)⟩) (fun h => absurd ⟨by omega, by omega⟩ h)
    obtain ⟨f1, -, -, -⟩ := hc.2.2.2.1 m (by omega)
    rw [tnN (by omega), f1]
    rcases fw_01 bs m with tw | tw
    · rw [tw]
      exact ⟨fun h => absurd rfl h, fun _ => s_meetLevel hL hv hc ht hx (by omega) tw hs next⟩
    · rw [tw]
      exact ⟨fun _ => s_meetSlope hL hv hc ht hx (by omega) tw hs next, fun h => absurd h (by decide)⟩
