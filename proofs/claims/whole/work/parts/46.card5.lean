theorem Val_drop {L : Int} : ∀ {bs : List Bx} (n : Nat), Val L bs → Val L (bs.drop n)
  | [], n, _ => by simp [Val]
  | x :: bs, 0, h => h
  | x :: bs, n + 1, h => by simpa using Val_drop n h.1
theorem pre_succ : ∀ {bs : List Bx} {i : Nat}, i < bs.length → bs.drop (bs.length - (i + 1)) = bx bs i :: bs.drop (bs.length - i)
  | [], i, h => absurd h (by simp)
  | x :: bs, i, h => by
    simp only [List.length_cons] at h ⊢
    unfold bx
    rcases Nat.lt_or_ge i bs.length with hi | hi
    · rw [if_pos hi, show bs.length + 1 - (i + 1) = (bs.length - (i + 1)) + 1 by omega, show bs.length + 1 - i = (bs.length - i) + 1 by omega, List.drop_succ_cons, List.drop_succ_cons]
      exact pre_succ hi
    · have : i = bs.length := by omega
      subst this
      rw [if_neg (by omega), show bs.length + 1 - (bs.length + 1) = 0 by omega, show bs.length + 1 - bs.length = 0 + 1 by omega, List.drop_succ_cons]
      rfl
theorem s_copyFrom {L : Int} {bs : List Bx} (hL : 4 ≤ L ∧ L ≤ 12) (hv : Val L bs) {wc wo : Wd} (ho : CR L bs wo) {Q : Wd → Wd → Prop} (hq : ∀ w' : Wd, CR L bs w' → Q w' wo) : k_X0_copyFrom wc wo Q := by
  have hlen := Val_len hv
  obtain ⟨o0, o1, ox, of', ok, ob⟩ := ho
  unfold k_X0_copyFrom
  rw [o0]
  refine s_begin hL (fun w1 h1 => ?_)
  refine lpf_run (fun u => ∃ i : Nat, i ≤ bs.length ∧ u.1 = iI i ∧ CR L (bs.drop (bs.length - i)) u.2.1 ∧ u.2.2 = wo) (fun u => bs.length - u.1.toNatClampNeg) _ ⟨0, by omega, rfl, by simpa using h1, rfl⟩ ?_
  rintro K ⟨a1, w2, wo2⟩ ⟨i, hi, e1, hc, e3⟩ ih
  dsimp only at e1 hc e3 ih ⊢
  subst e1; subst e3
  unfold k_X0_copyFrom_10
  have tn : (iI (i : Int)).toNatClampNeg = i := by rw [iI_tn (by omega) (by omega)]; omega
  rw [o1, tn]
  refine ⟨fun h => ?_, fun h => ⟨fun h2 => ?_, fun h2 => ?_⟩⟩
  · have : i = bs.length := by
      revert h; simp (disch := first | omega | (constructor <;> omega)) only [li_0, li_1, li_2, li_3, li_4, li_5, li_6, li_7, li_8, li_9, li_10, li_11, li_12, li_13, li_14, li_15, li_16, li_20, li_24, li_25, li_26, li_31, li_40, li_41, li_100, li_169, li_600, li_1000, li_10000, li_100000, lm_1, lm_2, lm_3, lm_4, lm_5, lm_6, lm_600, lm_10000, lm_12, iI_add, iI_sub, iI_mul, iI_neg, iI_lt, iI_le, iI_eq, iI_in, iI_tn]; omega
    subst this
    rw [show bs.length - bs.length = 0 by omega] at hc
    exact hq w2 hc
  · exfalso
    revert h h2; simp (disch := first | omega | (constructor <;> omega)) only [li_0, li_1, li_2, li_3, li_4, li_5, li_6, li_7, li_8, li_9, li_10, li_11, li_12, li_13, li_14, li_15, li_16, li_20, li_24, li_25, li_26, li_31, li_40, li_41, li_100, li_169, li_600, li_1000, li_10000, li_100000, lm_1, lm_2, lm_3, lm_4, lm_5, lm_6, lm_600, lm_10000, lm_12, iI_add, iI_sub, iI_mul, iI_neg, iI_lt, iI_le, iI_eq, iI_in, iI_tn]; omega
  · have hlt : i < bs.length := by
      revert h; simp (disch := first | omega | (constructor <;> omega)) only [li_0, li_1, li_2, li_3, li_4, li_5, li_6, li_7, li_8, li_9, li_10, li_11, li_12, li_13, li_14, li_15, li_16, li_20, li_24, li_25, li_26, li_31, li_40, li_41, li_100, li_169, li_600, li_1000, li_10000, li_100000, lm_1, lm_2, lm_3, lm_4, lm_5, lm_6, lm_600, lm_10000, lm_12, iI_add, iI_sub, iI_mul, iI_neg, iI_lt, iI_le, iI_eq, iI_in, iI_tn]; omega
    have hin : vp_in (iI (i : Int)) 6 := (iI_in (by constructor <;> omega)).mpr ⟨by omega, by omega⟩
    refine ⟨hin, hin, hin, ?_⟩
    obtain ⟨x2, x3, x4⟩ := ox i hlt
    rw [x2, x3, x4]
    have hp := pre_succ hlt
    refine s_addBox hL (bs := bs.drop (bs.length - i)) ?_ hc (fun w3 h3 => ?_)
    · have := Val_drop (L := L) (bs.length - (i + 1)) hv
      rw [hp] at this
      exact this
    · have e5 : iI (i : Int) + 1 = iI ((i + 1 : Nat) : Int) := by simp only [li_0, li_1, li_2, li_3, li_4, li_5, li_6, li_7, li_8, li_9, li_10, li_11, li_12, li_13, li_14, li_15, li_16, li_20, li_24, li_25, li_26, li_31, li_40, li_41, li_100, li_169, li_600, li_1000, li_10000, li_100000, lm_1, lm_2, lm_3, lm_4, lm_5, lm_6, lm_600, lm_10000, lm_12, iI_add, iI_sub, iI_mul, iI_neg]; rfl
      rw [e5]
      refine ih _ ⟨i + 1, by omega, rfl, ?_, rfl⟩ ?_
      · dsimp only
        rw [hp]
        exact h3
      · dsimp only
        rw [tn, iI_tn (by omega) (by omega)]
        omega
/-- how far P goes on from 0 -/
def rr (P : Nat → Bool) : Nat → Nat → Nat
  | 0, t => t
  | n + 1, t => if P t then rr P n (t + 1) else t
def rch (P : Nat → Bool) : Nat := rr P 12 0
theorem rr_spec (P : Nat → Bool) : ∀ (n t : Nat), (∀ s, t ≤ s → s < rr P n t → P s = true) ∧ (rr P n t < t + n → P (rr P n t) = false) ∧ t ≤ rr P n t ∧ rr P n t ≤ t + n
  | 0, t => by
    unfold rr
    exact ⟨fun s h1 h2 => absurd h1 (by omega), fun h => absurd h (by omega), by omega, by omega⟩
  | n + 1, t => by
    unfold rr
    by_cases h : P t = true
    · rw [if_pos h]
      obtain ⟨h1, h2, h3, h4⟩ := rr_spec P n (t + 1)
      refine ⟨fun s hs1 hs2 => ?_, fun hs => h2 (by omega), by omega, by omega⟩
      rcases Nat.eq_or_lt_of_le hs1 with he | he
      · exact he ▸ h
      · exact h1 s he hs2
    · rw [if_neg h]
      exact ⟨fun s h1 h2 => absurd h1 (by omega), fun _ => by simpa using h, by omega, by omega⟩
theorem rch_le (P : Nat → Bool) : rch P ≤ 12 := by have := (rr_spec P 12 0).2.2.2; unfold rch; omega
theorem rch_in {P : Nat → Bool} {t : Nat} (h : t < rch P) : P t = true := (rr_spec P 12 0).1 t (Nat.zero_le _) h
theorem rch_out {P : Nat → Bool} (h : P 12 = false) : P (rch P) = false := by
  rcases Nat.lt_or_ge (rch P) 12 with h1 | h1
  · exact (rr_spec P 12 0).2.1 (by unfold rch at h1; omega)
  · have := rch_le P
    rw [show rch P = 12 by omega]
    exact h
theorem rch_eq {P : Nat → Bool} {r : Nat} (hr : r ≤ 12) (h1 : ∀ t, t < r → P t = true) (h2 : r = 12 ∨ P r = false) : rch P = r := by
  have hle := rch_le P
  rcases Nat.lt_trichotomy (rch P) r with h | h | h
  · exfalso
    have a := h1 _ h
    have b := (rr_spec P 12 0).2.1 (by unfold rch at h; omega)
    unfold rch at a
    rw [a] at b
    exact absurd b (by decide)
  · exact h
  · exfalso
    rcases h2 with h2 | h2
    · omega
    · have := rch_in h
      rw [h2] at this
      exact absurd this (by decide)
/-- is the t-th unit piece from a corner on covered -/
def pcB (L : Int) (bs : List Bx) (k al t : Nat) : Bool := if al = 0 then decide (0 < spN L bs (2 * bs.length + 2) (if 0 < cu bs k then cp bs k + t else cp bs k - 1 - t) (cq bs k)) else decide (0 < sqN L bs (2 * bs.length + 2) (cp bs k) (if 0 < cv bs k then cq bs k + t else cq bs k - 1 - t))
def rchK (L : Int) (bs : List Bx) (k al : Nat) : Nat := rch (pcB L bs k al)
theorem bit1 (x : Int32) {n : Nat} (hn : n < 32) : (((x.toUInt32 >>> ((iI (n : Int)).toUInt32 &&& Int32.toUInt32 31)).toInt32 &&& 1) = 1) ↔ bt x n = true := by
  rw [← iI_nI]
  have h : ∀ i, i < 32 → bt ((x.toUInt32 >>> ((nI n).toUInt32 &&& Int32.toUInt32 31)).toInt32 &&& 1) i = (bt x (n + i) && decide (i = 0)) := fun i hi => by
    rw [b_and, b_ushr n hn]
    congr 1
    revert i
    decide +kernel
  constructor
  · intro e
    have := h 0 (by decide)
    rw [e] at this
    simp only [Nat.add_zero, decide_true, Bool.and_true] at this
    rw [← this]
    decide
  · intro e
    refine b_ext (fun i hi => ?_)
    rw [h i hi]
    by_cases h0 : i = 0
    · subst h0
      rw [Nat.add_zero, e]
      decide
    · rw [decide_eq_false h0, Bool.and_false]
      revert i
      decide +kernel
theorem s_isBit {x : Int32} {z : Int} (hz : ir z) {Q : Int32 → Prop} (q1 : 0 ≤ z → z < 32 → bt x z.toNat = true → Q 1) (q0 : (z < 0 ∨ 32 ≤ z ∨ bt x z.toNat = false) → Q 0) : k_X3_isBit x (iI z) Q := by
  unfold k_X3_isBit
  refine s_isWithin hz (l := 0) (h := 31) (by constructor <;> omega) (by constructor <;> omega) (fun h1 h2 => ⟨fun h => absurd h (by decide), fun _ => ?_⟩) (fun h => ⟨fun _ => q0 (by omega), fun h => absurd rfl h⟩)
  obtain ⟨n, rfl⟩ := nat_of h1
  rw [bit1 x (by omega)]
  simp only [Int.toNat_natCast] at q1 q0
  refine ⟨fun h => q0 (Or.inr (Or.inr (by simpa using h))), fun h => q1 h1 (by omega) h⟩
/-- the loop of reach over a row of pieces -/
theorem s_reach105 {w : Wd} {row : Int32} {sg nx : Int} (hsg : sg = 1 ∨ sg = -1) (hnx : -1 ≤ nx ∧ nx ≤ 12) {P : Nat → Bool} (hP : ∀ t, t < 12 → (P t = true ↔ (0 ≤ nx + sg * t ∧ bt row (nx + sg * t).toNat = true))) {Q : Int32 → Wd → Prop} (hq : Q (iI (rch P)) w) : k_X0_reach_105 Q (iI sg) row (iI nx) w := by
  unfold k_X0_reach_105
  refine lpf_run (fun u => ∃ r : Nat, r ≤ 12 ∧ u.1 = iI sg ∧ u.2.1 = row ∧ u.2.2.1 = iI nx ∧ u.2.2.2.1 = iI r ∧ u.2.2.2.2 = w ∧ ∀ t, t < r → P t = true) (fun u => 12 - u.2.2.2.1.toNatClampNeg) _ ⟨0, by omega, rfl, rfl, rfl, rfl, rfl, fun t h => absurd h (by omega)⟩ ?_
  rintro K ⟨a1, a2, a3, a4, w1⟩ ⟨r, hr, e1, e2, e3, e4, e5, hp⟩ ih
  dsimp only at e1 e2 e3 e4 e5 ih ⊢
  subst e1; subst e2; subst e3; subst e4; subst e5
  unfold k_X0_reach_110
  have tn : (iI (r : Int)).toNatClampNeg = r := by rw [iI_tn (by omega) (by omega)]; omega
  refine ⟨fun h => ?_, fun h => ?_⟩
  · have : r = 12 := by
      revert h; simp (disch := first | omega | (constructor <;> omega)) only [li_0, li_1, li_2, li_3, li_4, li_5, li_6, li_7, li_8, li_9, li_10, li_11, li_12, li_13, li_14, li_15, li_16, li_20, li_24, li_25, li_26, li_31, li_40, li_41, li_100, li_169, li_600, li_1000, li_10000, li_100000, lm_1, lm_2, lm_3, lm_4, lm_5, lm_6, lm_600, lm_10000, lm_12, iI_add, iI_sub, iI_mul, iI_neg, iI_lt, iI_le, iI_eq, iI_in, iI_tn]; omega
    subst this
    rw [rch_eq (Nat.le_refl 12) hp (Or.inl rfl)] at hq
    exact hq
  · have hlt : r < 12 := by
      revert h; simp (disch := first | omega | (constructor <;> omega)) only [li_0, li_1, li_2, li_3, li_4, li_5, li_6, li_7, li_8, li_9, li_10, li_11, li_12, li_13, li_14, li_15, li_16, li_20, li_24, li_25, li_26, li_31, li_40, li_41, li_100, li_169, li_600, li_1000, li_10000, li_100000, lm_1, lm_2, lm_3, lm_4, lm_5, lm_6, lm_600, lm_10000, lm_12, iI_add, iI_sub, iI_mul, iI_neg, iI_lt, iI_le, iI_eq, iI_in, iI_tn]; omega
    rw [iI_mul, iI_add]
    have hrg : ir (nx + sg * r) := by
      rcases hsg with rfl | rfl <;> constructor <;> omega
    refine s_isBit hrg (fun h1 h2 h3 => ⟨fun _ => ?_, fun h => absurd h (by decide)⟩) (fun h1 => ⟨fun h => absurd rfl h, fun _ => ?_⟩)
    · have e5 : iI (r : Int) + 1 = iI ((r + 1 : Nat) : Int) := by simp only [li_0, li_1, li_2, li_3, li_4, li_5, li_6, li_7, li_8, li_9, li_10, li_11, li_12, li_13, li_14, li_15, li_16, li_20, li_24, li_25, li_26, li_31, li_40, li_41, li_100, li_169, li_600, li_1000, li_10000, li_100000, lm_1, lm_2, lm_3, lm_4, lm_5, lm_6, lm_600, lm_10000, lm_12, iI_add, iI_sub, iI_mul, iI_neg]; rfl
      rw [e5]
      refine ih _ ⟨r + 1, by omega, rfl, rfl, rfl, rfl, rfl, fun t ht => ?_⟩ ?_
      · rcases Nat.lt_or_ge t r with h4 | h4
        · exact hp t h4
        · rw [show t = r by omega]
          exact (hP r hlt).mpr ⟨h1, h3⟩
      · dsimp only
        rw [tn, iI_tn (by omega) (by omega)]
        omega
    · have hf : P r = false := by
        cases hx : P r with
        | false => rfl
        | true =>
          exfalso
          obtain ⟨h2, h3⟩ := (hP r hlt).mp hx
          rcases h1 with h1 | h1 | h1
          · omega
          · rcases hsg with rfl | rfl <;> omega
          · rw [h3] at h1; exact absurd h1 (by decide)
      rw [rch_eq hr hp (Or.inr hf)] at hq
      exact hq
theorem s_reach {L : Int} {bs : List Bx} (hL : 4 ≤ L ∧ L ≤ 12) (hv : Val L bs) {w : Wd} (hc : CR L bs w) {k al : Nat} (hk : k < 5 * bs.length + 1) (hal : al < 2) {Q : Int32 → Wd → Prop} (hq : Q (iI (rchK L bs k al)) w) : k_X0_reach (iI k) (iI al) w Q := by
  have hlen := Val_len hv
  obtain ⟨c0, c1, cx, cf, ck, cb⟩ := hc
  obtain ⟨k9, k10, k11, k12⟩ := ck k hk
  have tn : (iI (k : Int)).toNatClampNeg = k := by rw [iI_tn (by omega) (by omega)]; omega
  have hin : vp_in (iI (k : Int)) 31 := (iI_in (by constructor <;> omega)).mpr ⟨by omega, by omega⟩
  have t0 := ctri (L := L) (by omega) hv k
  unfold tri at t0
  obtain ⟨p, hp⟩ := nat_of t0.1
  obtain ⟨q, hq'⟩ := nat_of t0.2.1
  rw [hp, hq'] at t0
  have hu := cu_pm bs k
  have hw := cv_pm bs k
  unfold k_X0_reach
  refine s_hasCorner (n := bs.length) (by omega) c1 (by constructor <;> omega) (fun _ _ => ⟨fun _ => ?_, fun h => absurd h (by decide)⟩) (fun h => absurd ⟨by omega, by omega⟩ h)
  unfold rchK at hq
  rcases (show al = 0 ∨ al = 1 by omega) with rfl | rfl
  · refine ⟨fun h => absurd rfl h, fun _ => ?_⟩
    unfold k_X0_reach_19
    refine ⟨fun h => absurd h (by decide), fun _ => ⟨hin, ?_⟩⟩
    unfold k_X0_reach_39
    refine ⟨fun h => absurd h (by decide), fun _ => ⟨hin, ?_⟩⟩
    unfold k_X0_reach_60
    refine ⟨fun h => absurd h (by decide), fun _ => ⟨hin, ?_⟩⟩
    unfold k_X0_reach_86
    simp only [tn, k9, k10, k11, hp, hq']
    refine s_bitsOf (al := 0) (by decide) (by omega) ?_
    rw [upr_self]
    rcases hu with hu | hu
    · rw [hu]
      refine ⟨fun h => absurd h (by simp (disch := first | omega | (constructor <;> omega)) only [li_0, li_1, li_2, li_3, li_4, li_5, li_6, li_7, li_8, li_9, li_10, li_11, li_12, li_13, li_14, li_15, li_16, li_20, li_24, li_25, li_26, li_31, li_40, li_41, li_100, li_169, li_600, li_1000, li_10000, li_100000, lm_1, lm_2, lm_3, lm_4, lm_5, lm_6, lm_600, lm_10000, lm_12, iI_add, iI_sub, iI_mul, iI_neg, iI_lt, iI_le, iI_eq, iI_in, iI_tn]; omega), fun _ => ?_⟩
      refine s_reach105 (P := pcB L bs k 0) (Or.inl rfl) ⟨by omega, by omega⟩ (fun t ht => ?_) hq
      unfold pcB
      rw [if_pos rfl, hu, if_pos (by decide), hp, hq']
      have e : ((p : Int) + 1 * (t : Int)).toNat = p + t := by omega
      rw [e]
      have := (cb q (by omega) (p + t) (by omega)).1
      rw [show ro 0 q = q from rfl, this]
      rw [show ((p + t : Nat) : Int) = (p : Int) + t from rfl]
      constructor
      · intro h; exact ⟨by omega, h⟩
      · intro h; exact h.2
    · rw [hu]
      refine ⟨fun _ => ?_, fun h => absurd ?_ h⟩
      · have e1 : iI (p : Int) - 1 = iI ((p : Int) - 1) := by simp only [li_0, li_1, li_2, li_3, li_4, li_5, li_6, li_7, li_8, li_9, li_10, li_11, li_12, li_13, li_14, li_15, li_16, li_20, li_24, li_25, li_26, li_31, li_40, li_41, li_100, li_169, li_600, li_1000, li_10000, li_100000, lm_1, lm_2, lm_3, lm_4, lm_5, lm_6, lm_600, lm_10000, lm_12, iI_add, iI_sub, iI_mul, iI_neg]
        rw [e1]
        refine s_reach105 (P := pcB L bs k 0) (Or.inr rfl) ⟨by omega, by omega⟩ (fun t ht => ?_) hq
        unfold pcB
        rw [if_pos rfl, hu, if_neg (by decide), hp, hq']
        rcases Int.lt_or_le ((p : Int) - 1 - t) 0 with hneg | hpos
        · have := (onN_out (L := L) (by omega) hv (m := 2 * bs.length + 2) (p := (p : Int) - 1 - t) (q := q) (Or.inl hneg)).2.1
          rw [this]
          constructor
          · intro h; exact absurd h (by decide)
          · intro h; omega
        · obtain ⟨z, hz⟩ := nat_of hpos
          have e : ((p : Int) - 1 + -1 * (t : Int)).toNat = z := by omega
          rw [e, hz]
          have := (cb q (by omega) z (by omega)).1
          rw [show ro 0 q = q from rfl, this]
          constructor
          · intro h; exact ⟨by omega, h⟩
          · intro h; exact h.2
      · simp (disch := first | omega | (constructor <;> omega)) only [li_0, li_1, li_2, li_3, li_4, li_5, li_6, li_7, li_8, li_9, li_10, li_11, li_12, li_13, li_14, li_15, li_16, li_20, li_24, li_25, li_26, li_31, li_40, li_41, li_100, li_169, li_600, li_1000, li_10000, li_100000, lm_1, lm_2, lm_3, lm_4, lm_5, lm_6, lm_600, lm_10000, lm_12, iI_add, iI_sub, iI_mul, iI_neg, iI_lt, iI_le, iI_eq, iI_in, iI_tn]; omega
  · refine ⟨fun _ => ?_, fun h => absurd h (by decide)⟩
    unfold k_X0_reach_19
    refine ⟨fun _ => ⟨hin, ?_⟩, fun h => absurd rfl h⟩
    unfold k_X0_reach_39
    refine ⟨fun _ => ⟨hin, ?_⟩, fun h => absurd rfl h⟩
    unfold k_X0_reach_60
    refine ⟨fun _ => ⟨hin, ?_⟩, fun h => absurd rfl h⟩
    unfold k_X0_reach_86
    simp only [tn, k9, k10, k12, hp, hq']
    refine s_bitsOf (al := 1) (by decide) (by omega) ?_
    rw [upr_self]
    rcases hw with hu | hu
    · rw [hu]
      refine ⟨fun h => absurd h (by simp (disch := first | omega | (constructor <;> omega)) only [li_0, li_1, li_2, li_3, li_4, li_5, li_6, li_7, li_8, li_9, li_10, li_11, li_12, li_13, li_14, li_15, li_16, li_20, li_24, li_25, li_26, li_31, li_40, li_41, li_100, li_169, li_600, li_1000, li_10000, li_100000, lm_1, lm_2, lm_3, lm_4, lm_5, lm_6, lm_600, lm_10000, lm_12, iI_add, iI_sub, iI_mul, iI_neg, iI_lt, iI_le, iI_eq, iI_in, iI_tn]; omega), fun _ => ?_⟩
      refine s_reach105 (P := pcB L bs k 1) (Or.inl rfl) ⟨by omega, by omega⟩ (fun t ht => ?_) hq
      unfold pcB
      rw [if_neg (by decide), hu, if_pos (by decide), hp, hq']
      have e : ((q : Int) + 1 * (t : Int)).toNat = q + t := by omega
      rw [e]
      have := (cb p (by omega) (q + t) (by omega)).2.1
      rw [show ro 1 p = 13 + p from rfl, this]
      rw [show ((q + t : Nat) : Int) = (q : Int) + t from rfl]
      constructor
      · intro h; exact ⟨by omega, h⟩
      · intro h; exact h.2
    · rw [hu]
      refine ⟨fun _ => ?_, fun h => absurd ?_ h⟩
      · have e1 : iI (q : Int) - 1 = iI ((q : Int) - 1) := by simp only [li_0, li_1, li_2, li_3, li_4, li_5, li_6, li_7, li_8, li_9, li_10, li_11, li_12, li_13, li_14, li_15, li_16, li_20, li_24, li_25, li_26, li_31, li_40, li_41, li_100, li_169, li_600, li_1000, li_10000, li_100000, lm_1, lm_2, lm_3, lm_4, lm_5, lm_6, lm_600, lm_10000, lm_12, iI_add, iI_sub, iI_mul, iI_neg]
        rw [e1]
        refine s_reach105 (P := pcB L bs k 1) (Or.inr rfl) ⟨by omega, by omega⟩ (fun t ht => ?_) hq
        unfold pcB
        rw [if_neg (by decide), hu, if_neg (by decide), hp, hq']
        rcases Int.lt_or_le ((q : Int) - 1 - t) 0 with hneg | hpos
        · have := (onN_out (L := L) (by omega) hv (m := 2 * bs.length + 2) (p := p) (q := (q : Int) - 1 - t) (Or.inr (Or.inl hneg))).2.2
          rw [this]
          constructor
          · intro h; exact absurd h (by decide)
          · intro h; omega
        · obtain ⟨z, hz⟩ := nat_of hpos
          have e : ((q : Int) - 1 + -1 * (t : Int)).toNat = z := by omega
          rw [e, hz]
          have := (cb p (by omega) z (by omega)).2.1
          rw [show ro 1 p = 13 + p from rfl, this]
          constructor
          · intro h; exact ⟨by omega, h⟩
          · intro h; exact h.2
      · simp (disch := first | omega | (constructor <;> omega)) only [li_0, li_1, li_2, li_3, li_4, li_5, li_6, li_7, li_8, li_9, li_10, li_11, li_12, li_13, li_14, li_15, li_16, li_20, li_24, li_25, li_26, li_31, li_40, li_41, li_100, li_169, li_600, li_1000, li_10000, li_100000, lm_1, lm_2, lm_3, lm_4, lm_5, lm_6, lm_600, lm_10000, lm_12, iI_add, iI_sub, iI_mul, iI_neg, iI_lt, iI_le, iI_eq, iI_in, iI_tn]; omega
