/-! each call, the program's side and the model's, with one answer -/
theorem z0N : ((0 : Int32)).toNatClampNeg = 0 := rfl
theorem o1N : ((1 : Int32)).toNatClampNeg = 1 := rfl
theorem in0 {N : Nat} (h : 0 < N) (hN : N < 2147483648) : vp_in 0 N := inN (n := 0) h hN
theorem in1 {N : Nat} (h : 1 < N) (hN : N < 2147483648) : vp_in 1 N := inN (n := 1) h hN
/-! size -/
def sizeS (L : Int) (bs : List Bx) (z : Int) : Int32 × Int := if 4 ≤ z ∧ z ≤ 12 then (if bs.length = 0 then (iI L, z) else (-3, L)) else (-2, L)
theorem sizeS_ok {L : Int} {bs : List Bx} {z : Int} (hL : 4 ≤ L ∧ L ≤ 12) (hv : Val L bs) : (4 ≤ (sizeS L bs z).2 ∧ (sizeS L bs z).2 ≤ 12) ∧ Val (sizeS L bs z).2 bs := by
  unfold sizeS
  split
  · rename_i h
    split
    · rename_i h2
      have := List.eq_nil_of_length_eq_zero h2
      subst this
      exact ⟨h, trivial⟩
    · exact ⟨hL, hv⟩
  · exact ⟨hL, hv⟩
theorem a_size {L z : Int} {bs : List Bx} {wh wc : Wd} (hv : Val L bs) (hc : CR L bs wc) (hz : ir z) {Q : Int32 → Wd → Wd → Prop} (hq : ∀ wc' : Wd, CR (sizeS L bs z).2 bs wc' → Q (sizeS L bs z).1 wh wc') : k_X3_size (iI z) wh wc Q := by
  have hlen := Val_len hv
  unfold sizeS at hq
  unfold k_X3_size
  refine s_isWithin (l := 4) (h := 12) hz (by constructor <;> omega) (by constructor <;> omega) (fun h1 h2 => ⟨fun _ => ?_, fun h => absurd h (by decide)⟩) (fun h1 => ⟨fun h => absurd rfl h, fun _ => ?_⟩)
  · have hh : 4 ≤ z ∧ z ≤ 12 := ⟨h1, h2⟩
    rw [if_pos hh] at hq
    rw [hc.2.1, hc.1, li_0, iI_le (by constructor <;> omega) (by constructor <;> omega)]
    refine ⟨fun h3 => ?_, fun h3 => ?_⟩
    · have h4 : bs.length = 0 := by omega
      rw [if_pos h4] at hq
      have := List.eq_nil_of_length_eq_zero h4
      subst this
      exact s_begin hh (fun w' hw' => hq w' hw')
    · rw [if_neg (by omega)] at hq
      exact hq wc hc
  · rw [if_neg h1] at hq
    exact hq wc hc
theorem a_sizeM {L z : Int} {bs : List Bx} {wm : Wd} (hv : Val L bs) (hr : MRow (wm 0) L bs) (hz : ir z) {Q : Int32 → Wd → Prop} (hq : ∀ wm' : Wd, MRow (wm' 0) (sizeS L bs z).2 bs → wm' 1 = wm 1 → wm' 2 = wm 2 → Q (sizeS L bs z).1 wm') : k_X4_size (iI z) wm Q := by
  have hlen := Val_len hv
  unfold sizeS at hq
  unfold k_X4_size
  refine s_in (l := 4) (h := 12) hz (by constructor <;> omega) (by constructor <;> omega) (fun h1 h2 => ⟨fun _ => ⟨in1 (by decide) (by decide), ?_⟩, fun h => absurd h (by decide)⟩) (fun h1 => ⟨fun h => absurd rfl h, fun _ => ?_⟩)
  · have hh : 4 ≤ z ∧ z ≤ 12 := ⟨h1, h2⟩
    rw [if_pos hh] at hq
    have i0 : vp_in 0 20 := in0 (by decide) (by decide)
    rw [z0N, o1N, hr.2.1, hr.1]
    have hle := iI_le (a := (bs.length : Int)) (b := 0) (by constructor <;> omega) (by constructor <;> omega)
    refine ⟨fun h3 => ⟨i0, i0, ?_⟩, fun h3 => ?_⟩
    · have h4 : bs.length = 0 := by have := hle.mp h3; omega
      rw [if_pos h4] at hq
      refine hq _ ⟨?_, ?_, fun i hi => absurd hi (by omega)⟩ ?_ ?_
      · rw [up2_at, if_pos rfl]
      · rw [up2_at, if_neg (by decide)]; exact hr.2.1
      · rw [up2_ne (by decide)]
      · rw [up2_ne (by decide)]
    · rw [if_neg (fun h => h3 (hle.mpr (by omega)))] at hq
      exact hq wm hr rfl rfl
  · rw [if_neg h1] at hq
    exact hq wm hr rfl rfl
/-! put -/
def putS (L : Int) (bs : List Bx) (k a b : Int) : Int32 × List Bx := if 0 ≤ k ∧ k < 5 * bs.length + 1 then (if 1 ≤ a ∧ a ≤ 12 then (if 1 ≤ b ∧ b ≤ 12 then (if bs.length = 6 then (-4, bs) else (if whyN L bs k.toNat a b = 0 then (iI (2 * bs.length + 4), (k.toNat, a, b) :: bs) else (-5, bs))) else (-2, bs)) else (-2, bs)) else (-1, bs)
theorem putS_ok {L : Int} {bs : List Bx} {k a b : Int} (hL : 4 ≤ L ∧ L ≤ 12) (hv : Val L bs) : Val L (putS L bs k a b).2 := by
  have hlen := Val_len hv
  unfold putS
  split
  · rename_i h1
    split
    · rename_i h2
      split
      · rename_i h3
        split
        · exact hv
        · rename_i h4
          split
          · rename_i h5
            have := why_val hL hv (by omega) (k := k.toNat) (a := a.toNat) (b := b.toNat) (by omega) (by omega) (by omega) (by rw [show ((a.toNat : Nat) : Int) = a by omega, show ((b.toNat : Nat) : Int) = b by omega]; exact h5)
            rw [show ((a.toNat : Nat) : Int) = a by omega, show ((b.toNat : Nat) : Int) = b by omega] at this
            exact this
          · exact hv
      · exact hv
    · exact hv
  · exact hv
theorem s_areSides {x y : Int} (hx : ir x) (hy : ir y) {Q : Int32 → Prop} (q1 : 1 ≤ x ∧ x ≤ 12 → 1 ≤ y ∧ y ≤ 12 → Q 1) (q0 : ¬ (1 ≤ x ∧ x ≤ 12) ∨ ¬ (1 ≤ y ∧ y ≤ 12) → Q 0) : k_X3_areSides (iI x) (iI y) Q := by
  unfold k_X3_areSides
  refine s_isWithin (l := 1) (h := 12) hx (by constructor <;> omega) (by constructor <;> omega) (fun h1 h2 => ⟨fun h => absurd h (by decide), fun _ => ?_⟩) (fun h1 => ⟨fun _ => q0 (Or.inl h1), fun h => absurd rfl h⟩)
  refine s_isWithin (l := 1) (h := 12) hy (by constructor <;> omega) (by constructor <;> omega) (fun h3 h4 => ⟨fun h => absurd h (by decide), fun _ => q1 ⟨h1, h2⟩ ⟨h3, h4⟩⟩) (fun h3 => ⟨fun _ => q0 (Or.inr h3), fun h => absurd rfl h⟩)
theorem a_put {L k a b : Int} {bs : List Bx} {wh wc : Wd} (hL : 4 ≤ L ∧ L ≤ 12) (hv : Val L bs) (hc : CR L bs wc) (hk : ir k) (ha : ir a) (hb : ir b) {Q : Int32 → Wd → Wd → Prop} (hq : ∀ wc' : Wd, CR L (putS L bs k a b).2 wc' → Q (putS L bs k a b).1 wh wc') : k_X3_put (iI k) (iI a) (iI b) wh wc Q := by
  have hlen := Val_len hv
  have hvv := putS_ok (k := k) (a := a) (b := b) hL hv
  unfold putS at hq hvv
  unfold k_X3_put
  refine s_hasCorner hlen hc.2.1 hk (fun h1 h2 => ⟨fun _ => ?_, fun h => absurd h (by decide)⟩) (fun h1 => ⟨fun h => absurd rfl h, fun _ => ?_⟩)
  · have hh : 0 ≤ k ∧ k < 5 * bs.length + 1 := ⟨h1, h2⟩
    rw [if_pos hh] at hq hvv
    refine s_areSides ha hb (fun h3 h4 => ⟨fun _ => ?_, fun h => absurd h (by decide)⟩) (fun h3 => ⟨fun h => absurd rfl h, fun _ => ?_⟩)
    · rw [if_pos h3, if_pos h4] at hq hvv
      refine s_isFull hlen hc.2.1 (fun h5 => ⟨fun _ => ?_, fun h => absurd rfl h⟩) (fun h5 => ⟨fun h => absurd h (by decide), fun _ => ?_⟩)
      · rw [if_neg (by omega)] at hq hvv
        obtain ⟨k', rfl⟩ : ∃ k' : Nat, k = k' := ⟨k.toNat, by omega⟩
        obtain ⟨a', rfl⟩ : ∃ a' : Nat, a = a' := ⟨a.toNat, by omega⟩
        obtain ⟨b', rfl⟩ : ∃ b' : Nat, b = b' := ⟨b.toNat, by omega⟩
        rw [Int.toNat_natCast] at hq hvv
        refine s_reasonAgainst hL hv hc (by omega) (by omega) (by omega) ?_
        have hw := whyN_rng L bs k' a' b'
        have hz := iI_eq (a := whyN L bs k' a' b') (b := 0) (by constructor <;> omega) (by constructor <;> omega)
        refine ⟨fun h6 => ?_, fun h6 => ?_⟩
        · have h7 := hz.mp h6
          rw [if_pos h7] at hq hvv
          refine s_addBox hL hvv hc (fun w' hc' => s_facesC hc' ?_)
          have e : ((2 * ((k', (a' : Int), (b' : Int)) :: bs).length + 2 : Nat) : Int) = 2 * bs.length + 4 := by simp only [List.length_cons]; omega
          rw [e]
          exact hq w' hc'
        · rw [if_neg (mt hz.mpr h6)] at hq
          exact hq wc hc
      · rw [if_pos h5] at hq
        exact hq wc hc
    · have e : ∀ (p : Int32 × List Bx), (if 1 ≤ a ∧ a ≤ 12 then (if 1 ≤ b ∧ b ≤ 12 then p else (-2, bs)) else (-2, bs)) = ((-2, bs) : Int32 × List Bx) := fun p => by
        by_cases g : 1 ≤ a ∧ a ≤ 12
        · rw [if_pos g, if_neg (h3.resolve_left (fun h => h g))]
        · rw [if_neg g]
      rw [e] at hq
      exact hq wc hc
  · rw [if_neg h1] at hq
    exact hq wc hc
theorem MRow_same {L : Int} {bs : List Bx} {f g : Nat → Int32} (e : f = g) (h : MRow g L bs) : MRow f L bs := e ▸ h
theorem MRow_push {L : Int} {bs : List Bx} {k : Nat} {a b : Int} {f f' : Nat → Int32} (h : MRow f L bs) (h0 : f' 0 = f 0) (h1 : f' 1 = iI ((bs.length + 1 : Nat) : Int)) (h2 : ∀ i, i < bs.length → f' (2 + 3 * i) = f (2 + 3 * i) ∧ f' (3 + 3 * i) = f (3 + 3 * i) ∧ f' (4 + 3 * i) = f (4 + 3 * i)) (h3 : f' (2 + 3 * bs.length) = iI k) (h4 : f' (3 + 3 * bs.length) = iI a) (h5 : f' (4 + 3 * bs.length) = iI b) : MRow f' L ((k, a, b) :: bs) := by
  obtain ⟨m0, m1, mb⟩ := h
  refine ⟨by rw [h0, m0], by rw [h1]; rfl, fun i hi => ?_⟩
  have hi' : i < bs.length + 1 := hi
  by_cases hlt : i < bs.length
  · obtain ⟨e1, e2, e3⟩ := h2 i hlt
    obtain ⟨f1, f2, f3⟩ := mb i hlt
    have eb : bx ((k, a, b) :: bs) i = bx bs i := by rw [bx, if_pos hlt]
    rw [e1, e2, e3, eb]
    exact ⟨f1, f2, f3⟩
  · have : i = bs.length := by omega
    subst this
    have eb : bx ((k, a, b) :: bs) bs.length = (k, a, b) := by rw [bx, if_neg (Nat.lt_irrefl _)]
    rw [h3, h4, h5, eb]
    exact ⟨rfl, rfl, rfl⟩
theorem a_putM {L k a b : Int} {bs : List Bx} {wm : Wd} (hL : 4 ≤ L ∧ L ≤ 12) (hv : Val L bs) (hr : MRow (wm 0) L bs) (hk : ir k) (ha : ir a) (hb : ir b) {Q : Int32 → Wd → Prop} (hq : ∀ wm' : Wd, MRow (wm' 0) L (putS L bs k a b).2 → wm' 1 = wm 1 → wm' 2 = wm 2 → Q (putS L bs k a b).1 wm') : k_X4_put (iI k) (iI a) (iI b) wm Q := by
  have hlen := Val_len hv
  unfold putS at hq
  unfold k_X4_put
  refine s_lay hL hv hr (fun w g m => ?_)
  have g0 := g 0 (by omega)
  have g1 := g 1 (by omega)
  have g2 := g 2 (by omega)
  have hr' : MRow (w 0) L bs := MRow_same g0 hr
  refine s_isCornerM (L := L) hlen m.2.1 hk (fun h1 h2 => ⟨fun _ => ?_, fun h => absurd h (by decide)⟩) (fun h1 => ⟨fun h => absurd rfl h, fun _ => ?_⟩)
  · have hh : 0 ≤ k ∧ k < 5 * bs.length + 1 := ⟨h1, h2⟩
    rw [if_pos hh] at hq
    refine s_in (l := 1) (h := 12) ha (by constructor <;> omega) (by constructor <;> omega) (fun h3 h4 => ⟨fun h => absurd h (by decide), fun _ => ?_⟩) (fun h3 => ⟨fun _ => ?_, fun h => absurd rfl h⟩)
    · have hA : 1 ≤ a ∧ a ≤ 12 := ⟨h3, h4⟩
      rw [if_pos hA] at hq
      refine s_in (l := 1) (h := 12) hb (by constructor <;> omega) (by constructor <;> omega) (fun h5 h6 => ⟨fun _ => ⟨in1 (by decide) (by decide), ?_⟩, fun h => absurd h (by decide)⟩) (fun h5 => ⟨fun h => absurd rfl h, fun _ => ?_⟩)
      · have hB : 1 ≤ b ∧ b ≤ 12 := ⟨h5, h6⟩
        rw [if_pos hB] at hq
        have h66 := iI_eq (a := (bs.length : Int)) (b := 6) (by constructor <;> omega) (by constructor <;> omega)
        rw [o1N, hr'.2.1]
        refine ⟨fun h7 => ?_, fun h7 => ?_⟩
        · have h8 : ¬ bs.length = 6 := fun h => h7 (h66.mpr (by omega))
          rw [if_neg h8] at hq
          obtain ⟨k', rfl⟩ : ∃ k' : Nat, k = k' := ⟨k.toNat, by omega⟩
          obtain ⟨a', rfl⟩ : ∃ a' : Nat, a = a' := ⟨a.toNat, by omega⟩
          obtain ⟨b', rfl⟩ : ∃ b' : Nat, b = b' := ⟨b.toNat, by omega⟩
          rw [Int.toNat_natCast] at hq
          refine s_whyNot hL hv m hr'.1 (by omega) (by omega) (by omega) ?_
          have hw := whyN_rng L bs k' a' b'
          have hz := iI_le (a := whyN L bs k' a' b') (b := 0) (by constructor <;> omega) (by constructor <;> omega)
          refine ⟨fun h9 => ?_, fun h9 => ?_⟩
          · have h10 : whyN L bs k' a' b' = 0 := by have := hz.mp h9; omega
            rw [if_pos h10] at hq
            have n2 : (2 : Int32) + 3 * iI (bs.length : Int) = iI ((2 + 3 * bs.length : Nat) : Int) := by simp only [li_0, li_1, li_2, li_3, li_4, li_5, li_6, li_7, li_8, li_9, li_10, li_11, li_12, li_13, li_14, li_15, li_16, li_20, li_24, li_25, li_26, li_31, li_40, li_41, li_100, li_169, li_600, li_1000, li_10000, li_100000, lm_1, lm_2, lm_3, lm_4, lm_5, lm_6, lm_600, lm_10000, lm_12, iI_add, iI_sub, iI_mul, iI_neg]; congr 1
            have n3 : iI ((2 + 3 * bs.length : Nat) : Int) + 1 = iI ((3 + 3 * bs.length : Nat) : Int) := by simp only [li_0, li_1, li_2, li_3, li_4, li_5, li_6, li_7, li_8, li_9, li_10, li_11, li_12, li_13, li_14, li_15, li_16, li_20, li_24, li_25, li_26, li_31, li_40, li_41, li_100, li_169, li_600, li_1000, li_10000, li_100000, lm_1, lm_2, lm_3, lm_4, lm_5, lm_6, lm_600, lm_10000, lm_12, iI_add, iI_sub, iI_mul, iI_neg]; congr 1; omega
            have n4 : iI ((2 + 3 * bs.length : Nat) : Int) + 2 = iI ((4 + 3 * bs.length : Nat) : Int) := by simp only [li_0, li_1, li_2, li_3, li_4, li_5, li_6, li_7, li_8, li_9, li_10, li_11, li_12, li_13, li_14, li_15, li_16, li_20, li_24, li_25, li_26, li_31, li_40, li_41, li_100, li_169, li_600, li_1000, li_10000, li_100000, lm_1, lm_2, lm_3, lm_4, lm_5, lm_6, lm_600, lm_10000, lm_12, iI_add, iI_sub, iI_mul, iI_neg]; congr 1; omega
            rw [hr'.2.1, n2, n3, n4, tnN (by omega), tnN (by omega), tnN (by omega)]
            refine ⟨in1 (by decide) (by decide), inN (by omega) (by decide), inN (by omega) (by decide), inN (by omega) (by decide), in1 (by decide) (by decide), in1 (by decide) (by decide), ?_⟩
            have v1 : up2 (up2 (up2 w 0 (2 + 3 * bs.length) (iI (k' : Int))) 0 (3 + 3 * bs.length) (iI (a' : Int))) 0 (4 + 3 * bs.length) (iI (b' : Int)) 0 1 = iI bs.length := by
              rw [up2_at, if_neg (by omega), up2_at, if_neg (by omega), up2_at, if_neg (by omega), hr'.2.1]
            have v2 : iI (bs.length : Int) + 1 = iI ((bs.length + 1 : Nat) : Int) := by simp only [li_0, li_1, li_2, li_3, li_4, li_5, li_6, li_7, li_8, li_9, li_10, li_11, li_12, li_13, li_14, li_15, li_16, li_20, li_24, li_25, li_26, li_31, li_40, li_41, li_100, li_169, li_600, li_1000, li_10000, li_100000, lm_1, lm_2, lm_3, lm_4, lm_5, lm_6, lm_600, lm_10000, lm_12, iI_add, iI_sub, iI_mul, iI_neg]; rfl
            rw [v1, v2, up2_ne (by decide), up2_ne (by decide), up2_ne (by decide), up2_ne (by decide), m.1]
            have v3 : iI (2 * (bs.length : Int) + 2) + 2 = iI (2 * bs.length + 4) := by simp only [li_0, li_1, li_2, li_3, li_4, li_5, li_6, li_7, li_8, li_9, li_10, li_11, li_12, li_13, li_14, li_15, li_16, li_20, li_24, li_25, li_26, li_31, li_40, li_41, li_100, li_169, li_600, li_1000, li_10000, li_100000, lm_1, lm_2, lm_3, lm_4, lm_5, lm_6, lm_600, lm_10000, lm_12, iI_add, iI_sub, iI_mul, iI_neg]; congr 1
            rw [v3]
            refine hq _ (MRow_push hr' ?_ ?_ (fun i hi => ⟨?_, ?_, ?_⟩) ?_ ?_ ?_) ?_ ?_
            · rw [up2_at, if_neg (by omega), up2_at, if_neg (by omega), up2_at, if_neg (by omega), up2_at, if_neg (by omega)]
            · rw [up2_at, if_pos rfl]
            · rw [up2_at, if_neg (by omega), up2_at, if_neg (by omega), up2_at, if_neg (by omega), up2_at, if_neg (by omega)]
            · rw [up2_at, if_neg (by omega), up2_at, if_neg (by omega), up2_at, if_neg (by omega), up2_at, if_neg (by omega)]
            · rw [up2_at, if_neg (by omega), up2_at, if_neg (by omega), up2_at, if_neg (by omega), up2_at, if_neg (by omega)]
            · rw [up2_at, if_neg (by omega), up2_at, if_neg (by omega), up2_at, if_neg (by omega), up2_at, if_pos rfl]
            · rw [up2_at, if_neg (by omega), up2_at, if_neg (by omega), up2_at, if_pos rfl]
            · rw [up2_at, if_neg (by omega), up2_at, if_pos rfl]
            · rw [up2_ne (by decide), up2_ne (by decide), up2_ne (by decide), up2_ne (by decide), g1]
            · rw [up2_ne (by decide), up2_ne (by decide), up2_ne (by decide), up2_ne (by decide), g2]
          · rw [if_neg (fun h => h9 (hz.mpr (by omega)))] at hq
            exact hq w hr' g1 g2
        · have h8 : bs.length = 6 := by have := h66.mp h7; omega
          rw [if_pos h8] at hq
          exact hq w hr' g1 g2
      · rw [if_neg h5] at hq
        exact hq w hr' g1 g2
    · rw [if_neg h3] at hq
      exact hq w hr' g1 g2
  · rw [if_neg h1] at hq
    exact hq w hr' g1 g2
/-! off -/
def offS : List Bx → Int32 × List Bx
  | [] => (-3, [])
  | _ :: bs => (iI bs.length, bs)
theorem offS_ok {L : Int} {bs : List Bx} (hv : Val L bs) : Val L (offS bs).2 := by
  cases bs with
  | nil => exact trivial
  | cons x bs => exact hv.1
theorem a_off {L : Int} {bs : List Bx} {wh wc : Wd} (hL : 4 ≤ L ∧ L ≤ 12) (hv : Val L bs) (hc : CR L bs wc) {Q : Int32 → Wd → Wd → Prop} (hq : ∀ wc' : Wd, CR L (offS bs).2 wc' → Q (offS bs).1 wh wc') : k_X3_off wh wc Q := by
  have hlen := Val_len hv
  have hz := iI_eq (a := (bs.length : Int)) (b := 0) (by constructor <;> omega) (by constructor <;> omega)
  unfold k_X3_off
  rw [hc.2.1]
  cases bs with
  | nil => exact ⟨fun h => absurd rfl h, fun _ => hq wc hc⟩
  | cons x bs =>
    refine ⟨fun _ => s_dropBox ⟨by omega, hL.2⟩ hv hc (fun w' hc' => ?_), fun h => ?_⟩
    · rw [hc'.2.1]
      exact hq w' hc'
    · have := hz.mp h
      simp only [List.length_cons] at this
      omega
theorem a_offM {L : Int} {bs : List Bx} {wm : Wd} (hv : Val L bs) (hr : MRow (wm 0) L bs) {Q : Int32 → Wd → Prop} (hq : ∀ wm' : Wd, MRow (wm' 0) L (offS bs).2 → wm' 1 = wm 1 → wm' 2 = wm 2 → Q (offS bs).1 wm') : k_X4_off wm Q := by
  have hlen := Val_len hv
  have hz := iI_eq (a := (bs.length : Int)) (b := 0) (by constructor <;> omega) (by constructor <;> omega)
  have i1 : vp_in 1 20 := in1 (by decide) (by decide)
  unfold k_X4_off
  rw [o1N, hr.2.1, up2_at, if_pos rfl]
  refine ⟨i1, ?_⟩
  cases bs with
  | nil => exact ⟨fun h => absurd rfl h, fun _ => hq wm hr rfl rfl⟩
  | cons x bs =>
    refine ⟨fun _ => ⟨i1, i1, i1, ?_⟩, fun h => ?_⟩
    · have e : iI (((x :: bs).length : Nat) : Int) - 1 = iI (bs.length : Int) := by simp only [li_0, li_1, li_2, li_3, li_4, li_5, li_6, li_7, li_8, li_9, li_10, li_11, li_12, li_13, li_14, li_15, li_16, li_20, li_24, li_25, li_26, li_31, li_40, li_41, li_100, li_169, li_600, li_1000, li_10000, li_100000, lm_1, lm_2, lm_3, lm_4, lm_5, lm_6, lm_600, lm_10000, lm_12, iI_add, iI_sub, iI_mul, iI_neg]; congr 1; simp only [List.length_cons]; omega
      rw [e]
      refine hq _ ⟨?_, ?_, fun i hi => ?_⟩ ?_ ?_
      · rw [up2_at, if_neg (by decide), hr.1]
      · rw [up2_at, if_pos rfl]; rfl
      · have hi' : i < bs.length := hi
        have eb : bx (x :: bs) i = bx bs i := by rw [bx, if_pos hi']
        have := hr.2.2 i (by simp only [List.length_cons]; omega)
        rw [eb] at this
        rw [up2_at, if_neg (by omega), up2_at, if_neg (by omega), up2_at, if_neg (by omega)]
        exact this
      · rw [up2_ne (by decide)]
      · rw [up2_ne (by decide)]
    · have := hz.mp h
      simp only [List.length_cons] at this
      omega
