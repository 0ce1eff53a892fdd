theorem i64_toInt {a : Int} (ha : ir a) : (iI a).toInt64.toInt = a := by
  rw [Int32.toInt_toInt64, iI_toInt ha.1 ha.2]
theorem lgc {a b c d : Int} (ha : ir a) (hb : ir b) (hc : ir c) (hd : ir d) (h1 : -1000000000000 ≤ a * b ∧ a * b ≤ 1000000000000) (h2 : -1000000000000 ≤ c * d ∧ c * d ≤ 1000000000000) : (lg_cmp ((iI a).toInt64 * (iI b).toInt64) ((iI c).toInt64 * (iI d).toInt64) ≤ 0) ↔ a * b ≤ c * d := by
  have e1 : ((iI a).toInt64 * (iI b).toInt64).toInt = a * b := by
    rw [Int64.toInt_mul, i64_toInt ha, i64_toInt hb]
    exact Int.bmod_eq_of_le (by omega) (by omega)
  have e2 : ((iI c).toInt64 * (iI d).toInt64).toInt = c * d := by
    rw [Int64.toInt_mul, i64_toInt hc, i64_toInt hd]
    exact Int.bmod_eq_of_le (by omega) (by omega)
  unfold lg_cmp
  have hlt : ((iI a).toInt64 * (iI b).toInt64 > (iI c).toInt64 * (iI d).toInt64) ↔ c * d < a * b := by
    show ((iI c).toInt64 * (iI d).toInt64 < (iI a).toInt64 * (iI b).toInt64) ↔ _
    rw [Int64.lt_iff_toInt_lt, e1, e2]
  by_cases h : c * d < a * b
  · rw [if_pos (hlt.mpr h)]
    exact ⟨fun h3 => absurd h3 (by decide), fun h3 => absurd h3 (by omega)⟩
  · rw [if_neg (mt hlt.mp h)]
    refine ⟨fun _ => by omega, fun _ => ?_⟩
    split <;> decide
theorem s_common {a b : Nat} (ha : a < 100000000) (hb : b < 100000000) {Q : Int32 → Prop} (hq : Q (iI (Nat.gcd a b))) : k_X4_common (iI a) (iI b) Q := by
  unfold k_X4_common
  refine lpf_run (fun u => ∃ x y : Nat, x < 100000000 ∧ y < 100000000 ∧ Nat.gcd x y = Nat.gcd a b ∧ u.1 = iI x ∧ u.2 = iI y) (fun u => u.2.toNatClampNeg) _ ⟨a, b, ha, hb, rfl, rfl, rfl⟩ ?_
  rintro K ⟨u1, u2⟩ ⟨x, y, hx, hy, hg, e1, e2⟩ ih
  dsimp only at e1 e2 ih ⊢
  subst e1; subst e2
  unfold k_X4_common_4
  rw [li_0, iI_eq (by constructor <;> omega) (by constructor <;> omega)]
  refine ⟨fun h => ?_, fun h => ⟨h, ?_⟩⟩
  · have : y = 0 := by omega
    subst this
    rw [Nat.gcd_zero_right] at hg
    rw [hg]
    exact hq
  · have hm := Nat.mod_lt x (show 0 < y by omega)
    rw [nI_rem (by omega) (by omega) (by omega)]
    refine ih _ ⟨y, x % y, hy, by omega, ?_, rfl, rfl⟩ ?_
    · rw [← hg, Nat.gcd_comm x y, Nat.gcd_rec y x, Nat.gcd_comm]
    · dsimp only
      rw [tnN (by omega), tnN (by omega)]
      exact hm
theorem ov81 {Q : Int32 → Wd → Prop} {x a b ua ub H B : Int} {w : Wd} (hne : ¬ a = b) (ha : ir a) (hb : ir b) (hB : b - a = B) (hBr : -1000 ≤ B ∧ B ≤ 1000) (hH : ua * B + (ub - ua) * (x - a) = H) (hq : ∀ w' : Wd, (∀ r, r ≠ 21 → r ≠ 22 → w' r = w r) → w' 21 0 = iI (if 0 ≤ B then H else -H) → w' 22 0 = iI (if 0 ≤ B then B else -B) → Q 1 w') : k_X4_isOver_81 Q (iI x) (iI a) (iI b) (iI ua) (iI ub) w := by
  unfold k_X4_isOver_81
  have e1 : iI b - iI a = iI B := by rw [iI_sub, hB]
  have z1 : up2 w 22 0 (iI B) 22 0 = iI B := by rw [up2_at, if_pos rfl]
  have e2 : iI ua * iI B + (iI ub - iI ua) * (iI x - iI a) = iI H := by rw [iI_sub, iI_sub, iI_mul, iI_mul, iI_add, hH]
  rw [e1, z1, e2]
  have z2 : up2 (up2 w 22 0 (iI B)) 21 0 (iI H) 22 0 = iI B := by rw [up2_ne (by decide), z1]
  rw [z2]
  have z3 : up2 (up2 (up2 w 22 0 (iI B)) 21 0 (iI H)) 22 0 (-iI B) 21 0 = iI H := by rw [up2_ne (by decide), up2_at, if_pos rfl]
  rw [z3, iI_eq ha hb, li_0, iI_le (by constructor <;> omega) (by constructor <;> omega), iI_neg, iI_neg]
  refine ⟨fun _ => ⟨fun h => hq _ (fun r h1 h2 => ?_) ?_ ?_, fun h => hq _ (fun r h1 h2 => ?_) ?_ ?_⟩, fun h => absurd h hne⟩
  · rw [up2_ne h1, up2_ne h2]
  · rw [up2_at, if_pos rfl, if_pos h]
  · rw [up2_ne (by decide), up2_at, if_pos rfl, if_pos h]
  · rw [up2_ne h1, up2_ne h2, up2_ne h1, up2_ne h2]
  · rw [up2_at, if_pos rfl, if_neg h]
  · rw [up2_ne (by decide), up2_at, if_pos rfl, if_neg h]
theorem id_slope (s c fq' fl' x p : Int) : s * fq' * (c * fl') + (s * (fq' + fl') - s * fq') * (x - (25 * p + c * fq')) = s * (x - 25 * p) * fl' := by grind
theorem s_isOver {L : Int} {bs : List Bx} {w : Wd} {t m : Nat} {x : Int} (hL : 4 ≤ L ∧ L ≤ 12) (hv : Val L bs) (hc : ML L bs w) (ht : t < 11) (hx : -600 ≤ x ∧ x ≤ 600) (hm : m < 2 * bs.length + 2) {Q : Int32 → Wd → Prop}
    (q1 : ovB L bs t x m = true → ∀ w' : Wd, (∀ r, r ≠ 21 → r ≠ 22 → w' r = w r) → w' 21 0 = iI (hu L bs t x m * sc L bs t m) → w' 22 0 = iI (hl bs t m * sc L bs t m) → Q 1 w') (q0 : ¬ ovB L bs t x m = true → Q 0 w) : k_X4_isOver (iI m) (iI t) (iI x) w Q := by
  have hlen := Val_len hv
  obtain ⟨b1, b2, b3, b4, b5⟩ := ends_bd hL hv m
  obtain ⟨f1, f2, f3, f4⟩ := ftri (L := L) (by omega) hv m
  obtain ⟨m3, m4, m5, m6⟩ := hc.2.2.1 m hm
  have hau := AU_bd hL hv ht m
  have hcb := cZ_bd t ht
  have hin := inN (show m < 18 by omega) (by decide)
  unfold k_X4_isOver
  rw [tnN (by omega), m4, m5]
  refine ⟨hin, hin, s_acrossM ht (s_endP hv hc hm (s_endQ hv hc hm (s_acrossM ht ⟨hin, ?_⟩)))⟩
  rw [m5]
  refine s_upM ht (s_endQ hv hc hm (s_upM ht ?_))
  change k_X4_in (iI x) (iI (A1 bs t m)) (iI (A2 L bs t m)) (fun r62 => ((¬ r62 = 0 → (k_X4_isOver_81 Q (iI x) (iI (A1 bs t m)) (iI (A2 L bs t m)) (iI (U1 bs t m)) (iI (U2 L bs t m)) w)) ∧ (r62 = 0 → (k_X4_in (iI x) (iI (A2 L bs t m)) (iI (A1 bs t m)) (fun r73 => ((¬ r73 = 0 → (k_X4_isOver_81 Q (iI x) (iI (A1 bs t m)) (iI (A2 L bs t m)) (iI (U1 bs t m)) (iI (U2 L bs t m)) w)) ∧ (r73 = 0 → (Q 0 w))))))))
  have key : ∀ (OK : Prop), (OK ↔ ((A1 bs t m ≤ x ∧ x ≤ A2 L bs t m) ∨ (A2 L bs t m ≤ x ∧ x ≤ A1 bs t m))) → (OK ↔ ovB L bs t x m = true) → (OK → k_X4_isOver_81 Q (iI x) (iI (A1 bs t m)) (iI (A2 L bs t m)) (iI (U1 bs t m)) (iI (U2 L bs t m)) w) → k_X4_in (iI x) (iI (A1 bs t m)) (iI (A2 L bs t m)) (fun r62 => ((¬ r62 = 0 → (k_X4_isOver_81 Q (iI x) (iI (A1 bs t m)) (iI (A2 L bs t m)) (iI (U1 bs t m)) (iI (U2 L bs t m)) w)) ∧ (r62 = 0 → (k_X4_in (iI x) (iI (A2 L bs t m)) (iI (A1 bs t m)) (fun r73 => ((¬ r73 = 0 → (k_X4_isOver_81 Q (iI x) (iI (A1 bs t m)) (iI (A2 L bs t m)) (iI (U1 bs t m)) (iI (U2 L bs t m)) w)) ∧ (r73 = 0 → (Q 0 w)))))))) := by
    intro OK h1 h2 h3
    refine s_in (by constructor <;> omega) (by constructor <;> omega) (by constructor <;> omega) (fun a b => ⟨fun _ => h3 (h1.mpr (Or.inl ⟨a, b⟩)), fun h => absurd h (by decide)⟩) (fun a => ⟨fun h => absurd rfl h, fun _ => ?_⟩)
    refine s_in (by constructor <;> omega) (by constructor <;> omega) (by constructor <;> omega) (fun a b => ⟨fun _ => h3 (h1.mpr (Or.inr ⟨a, b⟩)), fun h => absurd h (by decide)⟩) (fun b => ⟨fun h => absurd rfl h, fun _ => q0 ?_⟩)
    intro hov
    have := h1.mp (h2.mpr hov)
    omega
  rcases fw_01 bs m with tw | tw
  · -- along p
    have eq1 : eQ L bs m = fq bs m := by unfold eQ; rw [if_neg (by omega)]
    have ep1 : eP L bs m = fp bs m + fl L bs m := by unfold eP; rw [if_pos tw]
    have hA : A2 L bs t m - A1 bs t m = 25 * fl L bs m := by unfold A1 A2 acr; rw [eq1, ep1]; omega
    have hU : U2 L bs t m = U1 bs t m := by unfold U1 U2; rw [eq1]
    refine key (A1 bs t m ≤ x ∧ x ≤ A2 L bs t m) (by omega) ?_ (fun hok => ?_)
    · unfold ovB; rw [if_pos tw]; simp
    · have ho : ovB L bs t x m = true := by unfold ovB; rw [if_pos tw]; exact decide_eq_true hok
      refine ov81 (H := U1 bs t m * (25 * fl L bs m)) (B := 25 * fl L bs m) (by omega) (by constructor <;> omega) (by constructor <;> omega) hA (by omega) (by rw [hU, Int.sub_self, Int.zero_mul, Int.add_zero]) (fun w' g g1 g2 => q1 ho w' g ?_ ?_)
      · rw [g1, if_pos (by omega)]
        unfold hu sc
        rw [if_pos tw, if_pos tw]
        rfl
      · rw [g2, if_pos (by omega)]
        unfold hl sc
        rw [if_pos tw, if_pos tw, Int.one_mul]
  · have tw0 : ¬ fw bs m = 0 := by omega
    have eq1 : eQ L bs m = fq bs m + fl L bs m := by unfold eQ; rw [if_pos tw]
    have ep1 : eP L bs m = fp bs m := by unfold eP; rw [if_neg tw0]
    have hmul : cZ t * eQ L bs m = cZ t * fq bs m + cZ t * fl L bs m := by rw [eq1, Int.mul_add]
    have hA1 : A1 bs t m = 25 * fp bs m + cZ t * fq bs m := rfl
    have hA2 : A2 L bs t m = 25 * fp bs m + cZ t * fq bs m + cZ t * fl L bs m := by unfold A2 acr; rw [ep1, hmul]; omega
    by_cases hz : cZ t = 0
    · -- upright
      have c1 : cZ t * fq bs m = 0 := by rw [hz, Int.zero_mul]
      have c2 : cZ t * fl L bs m = 0 := by rw [hz, Int.zero_mul]
      refine key (x - 25 * fp bs m = 0) (by omega) ?_ (fun hok => ?_)
      · unfold ovB; rw [if_neg tw0, if_pos hz]; simp
      · have ho : ovB L bs t x m = true := by unfold ovB; rw [if_neg tw0, if_pos hz]; exact decide_eq_true hok
        unfold k_X4_isOver_81
        rw [iI_eq (a := A1 bs t m) (b := A2 L bs t m) (by constructor <;> omega) (by constructor <;> omega), iI_le (a := U1 bs t m) (b := U2 L bs t m) (by constructor <;> omega) (by constructor <;> omega)]
        refine ⟨fun h => absurd (by omega) h, fun _ => ⟨fun _ => ?_, fun h => absurd (by omega) h⟩⟩
        unfold k_X4_isOver_103
        refine q1 ho _ (fun r h1 h2 => ?_) ?_ ?_
        · rw [up2_ne h2, up2_ne h1]
        · rw [up2_ne (by decide), up2_at, if_pos rfl]
          unfold hu sc
          rw [if_neg tw0, if_neg tw0, if_pos hz, if_pos hz, Int.mul_one]
          rfl
        · rw [up2_at, if_pos rfl]
          unfold hl sc
          rw [if_neg tw0, if_neg tw0, if_pos hz, if_pos hz]
          rfl
    · -- leaning
      have hfl : fl L bs m ≤ 12 := by omega
      have hH : U1 bs t m * (cZ t * fl L bs m) + (U2 L bs t m - U1 bs t m) * (x - A1 bs t m) = sZ t * (x - 25 * fp bs m) * fl L bs m := by
        unfold U1 U2 upz
        rw [hA1, eq1]
        exact id_slope _ _ _ _ _ _
      have hB : A2 L bs t m - A1 bs t m = cZ t * fl L bs m := by omega
      have hBb : -1000 ≤ cZ t * fl L bs m ∧ cZ t * fl L bs m ≤ 1000 := by omega
      rcases Int.lt_or_lt_of_ne hz with hneg | hpos
      · have hfp : cZ t * fl L bs m < 0 := Int.mul_neg_of_neg_of_pos hneg (by omega)
        have eab : ab (cZ t) = -cZ t := by unfold ab; rw [if_neg (by omega)]; omega
        have efw : fwd bs t x m = -(x - 25 * fp bs m) := by unfold fwd; rw [if_neg (by omega)]
        have n1 : -cZ t * fq bs m = -(cZ t * fq bs m) := Int.neg_mul _ _
        have n2 : -cZ t * eQ L bs m = -(cZ t * eQ L bs m) := Int.neg_mul _ _
        have hov : ovB L bs t x m = decide (ab (cZ t) * fq bs m ≤ fwd bs t x m ∧ fwd bs t x m ≤ ab (cZ t) * eQ L bs m) := by unfold ovB; rw [if_neg tw0, if_neg hz]
        rw [eab, efw, n1, n2] at hov
        refine key (A2 L bs t m ≤ x ∧ x ≤ A1 bs t m) (by omega) ?_ (fun hok => ?_)
        · rw [hov]; simp only [decide_eq_true_eq]; omega
        · have ho : ovB L bs t x m = true := by rw [hov]; exact decide_eq_true (by omega)
          refine ov81 (by omega) (by constructor <;> omega) (by constructor <;> omega) hB hBb hH (fun w' g g1 g2 => q1 ho w' g ?_ ?_)
          · rw [g1, if_neg (by omega)]
            unfold hu sc upz
            rw [if_neg tw0, if_neg tw0, if_neg hz, if_neg hz, efw]
            congr 1
            rw [Int.mul_neg, Int.neg_mul]
          · rw [g2, if_neg (by omega)]
            unfold hl sc
            rw [if_neg tw0, if_neg tw0, if_neg hz, if_neg hz, eab, Int.neg_mul]
      · have hfp : 0 < cZ t * fl L bs m := Int.mul_pos hpos (by omega)
        have eab : ab (cZ t) = cZ t := by unfold ab; rw [if_pos (by omega)]
        have efw : fwd bs t x m = x - 25 * fp bs m := by unfold fwd; rw [if_pos hpos]
        have hov : ovB L bs t x m = decide (ab (cZ t) * fq bs m ≤ fwd bs t x m ∧ fwd bs t x m ≤ ab (cZ t) * eQ L bs m) := by unfold ovB; rw [if_neg tw0, if_neg hz]
        rw [eab, efw] at hov
        refine key (A1 bs t m ≤ x ∧ x ≤ A2 L bs t m) (by omega) ?_ (fun hok => ?_)
        · rw [hov]; simp only [decide_eq_true_eq]; omega
        · have ho : ovB L bs t x m = true := by rw [hov]; exact decide_eq_true (by omega)
          refine ov81 (by omega) (by constructor <;> omega) (by constructor <;> omega) hB hBb hH (fun w' g g1 g2 => q1 ho w' g ?_ ?_)
          · rw [g1, if_pos (by omega)]
            unfold hu sc upz
            rw [if_neg tw0, if_neg tw0, if_neg hz, if_neg hz, efw]
          · rw [g2, if_pos (by omega)]
            unfold hl sc
            rw [if_neg tw0, if_neg tw0, if_neg hz, if_neg hz, eab]
theorem cmp_sc {U l u Lw S S' : Int} (hS : 1 ≤ S) (hS' : 1 ≤ S') : (u * S' * (Lw * S) ≤ U * S * (l * S')) ↔ u * Lw ≤ U * l := by
  have e1 : u * S' * (Lw * S) = (u * Lw) * (S' * S) := by grind
  have e2 : U * S * (l * S') = (U * l) * (S' * S) := by grind
  rw [e1, e2]
  exact Int.mul_le_mul_right (Int.mul_pos (by omega) (by omega))
theorem abv_neg {L : Int} {bs : List Bx} {t : Nat} {x : Int} : ∀ m, (abv L bs t x m).1 < 0 → (abv L bs t x m).1 = -6
  | 0, _ => rfl
  | m + 1, h => by
    rw [abv] at h ⊢
    split at h
    · dsimp only at h; omega
    · rename_i hn
      rw [if_neg hn]
      exact abv_neg m h
theorem mul_bdd {a b A B : Int} (ha : 0 ≤ a ∧ a ≤ A) (hb : 0 ≤ b ∧ b ≤ B) : 0 ≤ a * b ∧ a * b ≤ A * B := by
  refine ⟨Int.mul_nonneg ha.1 hb.1, ?_⟩
  exact Int.mul_le_mul ha.2 hb.2 hb.1 (by omega)
theorem s_aboveM {L : Int} {bs : List Bx} {w : Wd} {t wh : Nat} {x : Int} (hL : 4 ≤ L ∧ L ≤ 12) (hv : Val L bs) (hr : MRow (w 0) L bs) (ht : t < 11) (hx : -600 ≤ x ∧ x ≤ 600) (hwh : wh < 3) {Q : Int32 → Wd → Prop}
    (hq : ∀ w' : Wd, (∀ r, r ≤ 2 → w' r = w r) → Q (if (abv L bs t x (2 * bs.length + 2)).1 < 0 then (-6) else if wh = 0 then iI (abv L bs t x (2 * bs.length + 2)).1 else if wh = 1 then iI (((abv L bs t x (2 * bs.length + 2)).2.1.toNat / Nat.gcd (abv L bs t x (2 * bs.length + 2)).2.1.toNat (abv L bs t x (2 * bs.length + 2)).2.2.1.toNat : Nat) : Int) + 100000 else iI (((abv L bs t x (2 * bs.length + 2)).2.2.1.toNat / Nat.gcd (abv L bs t x (2 * bs.length + 2)).2.1.toNat (abv L bs t x (2 * bs.length + 2)).2.2.1.toNat : Nat) : Int)) w') : k_X4_above (iI t) (iI x) (iI wh) w Q := by
  have hlen := Val_len hv
  unfold k_X4_above
  refine s_in (l := 0) (h := 10) (by constructor <;> omega) (by constructor <;> omega) (by constructor <;> omega) (fun _ _ => ⟨fun h => absurd h (by decide), fun _ => ?_⟩) (fun h => absurd ⟨by omega, by omega⟩ h)
  rw [lm_600, li_600]
  refine s_in (l := -600) (h := 600) (by constructor <;> omega) (by constructor <;> omega) (by constructor <;> omega) (fun _ _ => ⟨fun h => absurd h (by decide), fun _ => ?_⟩) (fun h => absurd ⟨by omega, by omega⟩ h)
  refine s_in (l := 0) (h := 2) (by constructor <;> omega) (by constructor <;> omega) (by constructor <;> omega) (fun _ _ => ⟨fun _ => ?_, fun h => absurd h (by decide)⟩) (fun h => absurd ⟨by omega, by omega⟩ h)
  refine s_lay hL hv hr (fun w1 g1 m1 => ?_)
  refine lpf_run (fun u => ∃ m : Nat, m ≤ 2 * bs.length + 2 ∧ u.1 = iI t ∧ u.2.1 = iI x ∧ u.2.2.1 = iI wh ∧ u.2.2.2.1 = iI (abv L bs t x m).1 ∧ u.2.2.2.2.1 = iI ((abv L bs t x m).2.1 * (abv L bs t x m).2.2.2) ∧ u.2.2.2.2.2.1 = iI ((abv L bs t x m).2.2.1 * (abv L bs t x m).2.2.2) ∧ u.2.2.2.2.2.2.1 = iI m ∧ (∀ r, r < 16 → u.2.2.2.2.2.2.2 r = w1 r)) (fun u => 2 * bs.length + 2 - u.2.2.2.2.2.2.1.toNatClampNeg) _ ⟨0, by omega, rfl, rfl, rfl, rfl, rfl, rfl, rfl, fun _ _ => rfl⟩ ?_
  rintro K ⟨a1, a2, a3, a4, a5, a6, a7, w2⟩ ⟨m, hm, e1, e2, e3, e4, e5, e6, e7, hr2⟩ ih
  dsimp only at e1 e2 e3 e4 e5 e6 e7 hr2 ih ⊢
  subst e1; subst e2; subst e3; subst e4; subst e5; subst e6; subst e7
  have ee : iI (m : Int) + 1 = iI ((m + 1 : Nat) : Int) := by simp only [li_0, li_1, li_2, li_3, li_4, li_5, li_6, li_7, li_8, li_9, li_10, li_11, li_12, li_13, li_14, li_15, li_16, li_20, li_24, li_25, li_26, li_31, li_40, li_41, li_100, li_169, li_600, li_1000, li_10000, li_100000, lm_1, lm_2, lm_3, lm_4, lm_5, lm_6, lm_600, lm_10000, lm_12, iI_add, iI_sub, iI_mul, iI_neg]; rfl
  have hF := abv_bd hL hv ht (x := x) m (by omega)
  have m2 := ML_same hr2 m1
  unfold k_X4_above_52
  rw [m2.1, iI_le (by constructor <;> omega) (by constructor <;> omega)]
  refine ⟨fun h => ?_, fun h => ?_⟩
  · have hmm : m = 2 * bs.length + 2 := by omega
    subst hmm
    replace hq := hq w2 (fun r hr' => by rw [hr2 r (by omega), g1 r (Or.inl hr')])
    clear ih
    have hneg := abv_neg (L := L) (bs := bs) (t := t) (x := x) (2 * bs.length + 2)
    generalize abv L bs t x (2 * bs.length + 2) = s at hF hq hneg ⊢
    obtain ⟨s0, s1, s2, s3⟩ := s
    unfold F4bd at hF
    dsimp only at hF hq hneg ⊢
    have hlt := iI_lt (a := s0) (b := 0) (by constructor <;> omega) (by constructor <;> omega)
    refine ⟨fun h1 => ?_, fun h1 => ?_⟩
    · have h2 := hlt.mp h1
      rw [if_pos h2] at hq
      rw [hneg h2]
      exact hq
    · rw [if_neg (mt hlt.mpr h1)] at hq
      have hz := iI_eq (a := (wh : Int)) (b := 0) (by constructor <;> omega) (by constructor <;> omega)
      have ho := iI_eq (a := (wh : Int)) (b := 1) (by constructor <;> omega) (by constructor <;> omega)
      obtain ⟨U, rfl⟩ : ∃ U : Nat, s1 = U := ⟨s1.toNat, by omega⟩
      obtain ⟨V, rfl⟩ : ∃ V : Nat, s2 = V := ⟨s2.toNat, by omega⟩
      obtain ⟨S, rfl⟩ : ∃ S : Nat, s3 = S := ⟨s3.toNat, by omega⟩
      rw [Int.toNat_natCast, Int.toNat_natCast] at hq
      refine ⟨fun hn => ?_, fun h3 => ?_⟩
      · have hw0 : ¬ wh = 0 := fun h => hn (hz.mpr (by omega))
        rw [if_neg hw0] at hq
        rw [← Int.natCast_mul, ← Int.natCast_mul]
        have bV : V * S ≤ 25 * 300 := Nat.mul_le_mul (by omega) (by omega)
        have bU : U * S ≤ 7500 * 300 := Nat.mul_le_mul (by omega) (by omega)
        have hg : Nat.gcd (V * S) (U * S) = Nat.gcd U V * S := by rw [Nat.gcd_mul_right, Nat.gcd_comm]
        have hS : 0 < S := by omega
        have hgv : Nat.gcd U V ≤ V := Nat.gcd_le_right U (by omega)
        have hg0 : 0 < Nat.gcd U V := Nat.gcd_pos_of_pos_right U (by omega)
        have bg : Nat.gcd U V * S ≤ 25 * 300 := Nat.mul_le_mul (by omega) (by omega)
        have hgp : 0 < Nat.gcd U V * S := Nat.mul_pos hg0 hS
        refine s_common (a := V * S) (b := U * S) (by omega) (by omega) ?_
        rw [hg]
        have hne : ¬ iI ((Nat.gcd U V * S : Nat) : Int) = 0 := fun h => by
          have := (iI_eq (a := ((Nat.gcd U V * S : Nat) : Int)) (b := 0) (by constructor <;> omega) (by constructor <;> omega)).mp h
          omega
        refine ⟨fun h4 => ⟨hne, ?_⟩, fun h4 => ⟨hne, ?_⟩⟩
        · rw [nI_div (by omega) hgp (by omega), Nat.mul_div_mul_right _ _ hS]
          rw [if_neg (fun h => h4 (ho.mpr (by omega)))] at hq
          exact hq
        · rw [nI_div (by omega) hgp (by omega), Nat.mul_div_mul_right _ _ hS]
          have := ho.mp h4
          rw [if_pos (by omega)] at hq
          exact hq
      · have := hz.mp h3
        rw [if_pos (by omega)] at hq
        exact hq
  · refine s_isOver hL hv m2 ht hx (by omega) (fun ho w' g g21 g22 => ?_) (fun ho => ?_)
    · have hb := huhl_bd hL hv ht m ho
      have hr3 : ∀ r, r < 16 → w' r = w1 r := fun r hr => by rw [g r (by omega) (by omega), hr2 r hr]
      have stp := abv_step ho
      have new : ((abv L bs t x m).1 < 0 ∨ (abv L bs t x m).2.1 * hl bs t m < hu L bs t x m * (abv L bs t x m).2.2.1) → k_X4_above_99 K Q (iI t) (iI x) (iI wh) (iI m) w' := fun hc => by
        rw [if_pos hc] at stp
        unfold k_X4_above_99 k_X4_above_115
        rw [g21, g22, ee]
        refine ih _ ⟨m + 1, by omega, rfl, rfl, rfl, ?_, ?_, ?_, rfl, hr3⟩ ?_
        · rw [stp]
        · rw [stp]
        · rw [stp]
        · dsimp only
          rw [tnN (by omega), tnN (by omega)]
          omega
      have old : ¬ ((abv L bs t x m).1 < 0 ∨ (abv L bs t x m).2.1 * hl bs t m < hu L bs t x m * (abv L bs t x m).2.2.1) → k_X4_above_115 K Q (iI t) (iI x) (iI wh) (iI (abv L bs t x m).1) (iI ((abv L bs t x m).2.1 * (abv L bs t x m).2.2.2)) (iI ((abv L bs t x m).2.2.1 * (abv L bs t x m).2.2.2)) (iI m) w' := fun hc => by
        rw [if_neg hc] at stp
        unfold k_X4_above_115
        rw [ee]
        refine ih _ ⟨m + 1, by omega, rfl, rfl, rfl, ?_, ?_, ?_, rfl, hr3⟩ ?_
        · rw [stp]
        · rw [stp]
        · rw [stp]
        · dsimp only
          rw [tnN (by omega), tnN (by omega)]
          omega
      refine ⟨fun h => absurd h (by decide), fun _ => ?_⟩
      unfold F4bd at hF
      have hlt := iI_lt (a := (abv L bs t x m).1) (b := 0) (by constructor <;> omega) (by constructor <;> omega)
      refine ⟨fun hn => new (Or.inl (hlt.mp hn)), fun hn => ?_⟩
      have p1 := mul_bdd (a := hu L bs t x m) (b := sc L bs t m) (A := 7500) (B := 300) hb.1 (by omega)
      have p2 := mul_bdd (a := (abv L bs t x m).2.2.1) (b := (abv L bs t x m).2.2.2) (A := 25) (B := 300) (by omega) (by omega)
      have p3 := mul_bdd (a := (abv L bs t x m).2.1) (b := (abv L bs t x m).2.2.2) (A := 7500) (B := 300) (by omega) (by omega)
      have p4 := mul_bdd (a := hl bs t m) (b := sc L bs t m) (A := 25) (B := 300) (by omega) (by omega)
      have p5 := mul_bdd (a := hu L bs t x m * sc L bs t m) (b := (abv L bs t x m).2.2.1 * (abv L bs t x m).2.2.2) p1 p2
      have p6 := mul_bdd (a := (abv L bs t x m).2.1 * (abv L bs t x m).2.2.2) (b := hl bs t m * sc L bs t m) p3 p4
      have cm := (lgc (a := hu L bs t x m * sc L bs t m) (b := (abv L bs t x m).2.2.1 * (abv L bs t x m).2.2.2) (c := (abv L bs t x m).2.1 * (abv L bs t x m).2.2.2) (d := hl bs t m * sc L bs t m) (by constructor <;> omega) (by constructor <;> omega) (by constructor <;> omega) (by constructor <;> omega) (by omega) (by omega)).trans (cmp_sc (by omega) (by omega))
      rw [g21, g22]
      have hn' := mt hlt.mpr hn
      refine ⟨fun h => old (fun h' => ?_), fun h => new (Or.inr ?_)⟩
      · have := cm.mp h
        omega
      · have := mt cm.mpr h
        omega
    · refine ⟨fun _ => ?_, fun h => absurd rfl h⟩
      have stp := abv_skip ho
      unfold k_X4_above_115
      rw [ee]
      refine ih _ ⟨m + 1, by omega, rfl, rfl, rfl, ?_, ?_, ?_, rfl, hr2⟩ ?_
      · rw [stp]
      · rw [stp]
      · rw [stp]
      · dsimp only
        rw [tnN (by omega), tnN (by omega)]
        omega
