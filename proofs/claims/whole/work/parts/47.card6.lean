def hitQ (L : Int) (bs : List Bx) (x q v : Int) (n : Nat) : Nat := fb_ct (fun t => decide (0 < onN L bs (2 * bs.length + 2) x (q + v * ((t : Int) + 1)))) n
def hitP (L : Int) (bs : List Bx) (p u y : Int) (n : Nat) : Nat := fb_ct (fun t => decide (0 < onN L bs (2 * bs.length + 2) (p + u * ((t : Int) + 1)) y)) n
theorem and0 (x y : Int32) : (x &&& y) = 0 ↔ ∀ i, i < 32 → (bt x i && bt y i) = false := by
  constructor
  · intro h i hi
    rw [← b_and, h, b_0]
  · intro h
    exact b_ext (fun i hi => by rw [b_and, h i hi, b_0])
theorem s_isAnyTaken {w : Wd} {al ln : Nat} (hal : al < 2) (hln : ln < 13) {be sg : Int} {n : Nat} (hn : 1 ≤ n) (hsg : sg = 1 ∨ sg = -1) (hbe : 0 ≤ be ∧ be ≤ 12) (hfar : 0 ≤ be + sg * n ∧ be + sg * n ≤ 12) {Q : Int32 → Wd → Prop} (q1 : (∃ t : Nat, t < n ∧ bt (w 14 (ro al ln)) (be + sg * ((t : Int) + 1)).toNat = true) → Q 1 w) (q0 : (∀ t : Nat, t < n → bt (w 14 (ro al ln)) (be + sg * ((t : Int) + 1)).toNat = false) → Q 0 w) : k_X0_isAnyTaken (iI al) (iI ln) (iI be) (iI sg) (iI n) w Q := by
  unfold k_X0_isAnyTaken
  have r1 : ir (be + sg * n) := ⟨by omega, by omega⟩
  have r2 : ir (be + sg) := by rcases hsg with rfl | rfl <;> constructor <;> omega
  rw [iI_mul, iI_add, iI_add, iI_min _ _ r2 r1, iI_max _ _ r2 r1]
  have lo0 : 0 ≤ min (be + sg) (be + sg * n) := by rcases hsg with rfl | rfl <;> omega
  have hi0 : 0 ≤ max (be + sg) (be + sg * n) := by rcases hsg with rfl | rfl <;> omega
  obtain ⟨lo, hlo⟩ := nat_of lo0
  obtain ⟨hi, hhi⟩ := nat_of hi0
  have hb : lo ≤ hi ∧ hi < 13 := by rcases hsg with rfl | rfl <;> omega
  rw [hlo, hhi]
  refine s_bitsBetween hb.1 (by omega) (fun r hr => ?_)
  refine s_bitsOf hal hln ?_
  rw [upr_self, and0]
  refine ⟨fun h => q0 (fun t ht => ?_), fun h => q1 ?_⟩
  · have ht0 : 0 ≤ be + sg * ((t : Int) + 1) := by rcases hsg with rfl | rfl <;> omega
    obtain ⟨z, hz⟩ := nat_of ht0
    rw [hz, Int.toNat_natCast]
    have hz2 : lo ≤ z ∧ z ≤ hi := by rcases hsg with rfl | rfl <;> omega
    have := h z (by omega)
    rw [hr z (by omega), decide_eq_true hz2, Bool.and_true] at this
    exact this
  · apply Classical.byContradiction
    intro hno
    apply h
    intro i hi32
    rw [hr i hi32]
    by_cases hin : lo ≤ i ∧ i ≤ hi
    · rw [decide_eq_true hin, Bool.and_true]
      cases hx : bt (w 14 (ro al ln)) i with
      | false => rfl
      | true =>
        exfalso
        apply hno
        rcases hsg with rfl | rfl
        · refine ⟨i - lo, by omega, ?_⟩
          rw [show (be + 1 * (((i - lo : Nat) : Int) + 1)).toNat = i by omega]
          exact hx
        · refine ⟨hi - i, by omega, ?_⟩
          rw [show (be + -1 * (((hi - i : Nat) : Int) + 1)).toNat = i by omega]
          exact hx
    · rw [decide_eq_false hin, Bool.and_false]
/-- what a box on a corner is refused for, within reach -/
def whyW (L : Int) (bs : List Bx) (k : Nat) (a b : Int) : Int :=
  if L < cp bs k + cu bs k * a + (cq bs k + cv bs k * b) then 2
  else if 0 < hitQ L bs (cp bs k + cu bs k * a) (cq bs k) (cv bs k) b.toNat ∨ 0 < hitP L bs (cp bs k) (cu bs k) (cq bs k + cv bs k * b) a.toNat then 3 else 0
def whyN (L : Int) (bs : List Bx) (k : Nat) (a b : Int) : Int := if (rchK L bs k 0 : Int) < a ∨ (rchK L bs k 1 : Int) < b then 1 else whyW L bs k a b
theorem reach_tri {L : Int} (hL : 4 ≤ L ∧ L ≤ 12) {bs : List Bx} (hv : Val L bs) (k : Nat) :
    (∀ a : Nat, 1 ≤ a → a ≤ rchK L bs k 0 → tri L (cp bs k + cu bs k * a) (cq bs k)) ∧ (∀ b : Nat, 1 ≤ b → b ≤ rchK L bs k 1 → tri L (cp bs k) (cq bs k + cv bs k * b)) := by
  constructor
  · intro a h1 h2
    have := rch_in (P := pcB L bs k 0) (t := a - 1) (by unfold rchK at h2; omega)
    unfold pcB at this
    rw [if_pos rfl] at this
    have h3 := sp_end (by omega) hv (of_decide_eq_true this)
    unfold tri at h3 ⊢
    rcases cu_pm bs k with hu | hu
    · rw [hu] at h3 ⊢
      rw [if_pos (by decide)] at h3
      omega
    · rw [hu] at h3 ⊢
      rw [if_neg (by decide)] at h3
      omega
  · intro b h1 h2
    have := rch_in (P := pcB L bs k 1) (t := b - 1) (by unfold rchK at h2; omega)
    unfold pcB at this
    rw [if_neg (by decide)] at this
    have h3 := sq_end (by omega) hv (of_decide_eq_true this)
    unfold tri at h3 ⊢
    rcases cv_pm bs k with hu | hu
    · rw [hu] at h3 ⊢
      rw [if_pos (by decide)] at h3
      omega
    · rw [hu] at h3 ⊢
      rw [if_neg (by decide)] at h3
      omega
theorem why_val {L : Int} (hL : 4 ≤ L ∧ L ≤ 12) {bs : List Bx} (hv : Val L bs) (hlen : bs.length < 6) {k a b : Nat} (hk : k < 5 * bs.length + 1) (ha : 1 ≤ a) (hb : 1 ≤ b) (h : whyN L bs k a b = 0) : Val L ((k, (a : Int), (b : Int)) :: bs) := by
  unfold whyN at h
  by_cases hr : (rchK L bs k 0 : Int) < a ∨ (rchK L bs k 1 : Int) < b
  · rw [if_pos hr] at h; exact absurd h (by decide)
  · rw [if_neg hr] at h
    unfold whyW at h
    by_cases h2 : L < cp bs k + cu bs k * a + (cq bs k + cv bs k * b)
    · rw [if_pos h2] at h; exact absurd h (by decide)
    · obtain ⟨r1, r2⟩ := reach_tri hL hv k
      have t1 := r1 a ha (by omega)
      have t2 := r2 b hb (by omega)
      refine ⟨hv, hlen, hk, by dsimp only; omega, by dsimp only; omega, t1, t2, ?_⟩
      dsimp only
      unfold tri at t1 t2 ⊢
      omega
theorem s_reasonWithin {L : Int} {bs : List Bx} (hL : 4 ≤ L ∧ L ≤ 12) (hv : Val L bs) {w : Wd} (hc : CR L bs w) {k a b : Nat} (hk : k < 5 * bs.length + 1) (ha : 1 ≤ a) (hb : 1 ≤ b) (hra : a ≤ rchK L bs k 0) (hrb : b ≤ rchK L bs k 1) {Q : Int32 → Wd → Prop} (hq : Q (iI (whyW L bs k a b)) w) : k_X0_reasonWithinReach (iI k) (iI a) (iI b) w Q := by
  have hlen := Val_len hv
  obtain ⟨c0, c1, cx, cf, ck, cb⟩ := hc
  obtain ⟨k9, k10, k11, k12⟩ := ck k hk
  have tn : (iI (k : Int)).toNatClampNeg = k := by rw [iI_tn (by omega) (by omega)]; omega
  have hin : vp_in (iI (k : Int)) 31 := (iI_in (by constructor <;> omega)).mpr ⟨by omega, by omega⟩
  have t0 := ctri (L := L) (by omega) hv k
  obtain ⟨r1, r2⟩ := reach_tri hL hv k
  have t1 := r1 a ha hra
  have t2 := r2 b hb hrb
  unfold tri at t0 t1 t2
  unfold k_X0_reasonWithinReach
  refine s_hasCorner (n := bs.length) (by omega) c1 (by constructor <;> omega) (fun _ _ => ⟨fun _ => ⟨hin, hin, hin, hin, ?_⟩, fun h => absurd h (by decide)⟩) (fun h => absurd ⟨by omega, by omega⟩ h)
  simp only [tn, k9, k10, k11, k12, c0, iI_mul, iI_add]
  unfold whyW at hq
  rw [iI_le (by constructor <;> omega) (by constructor <;> omega)]
  refine ⟨fun h => ?_, fun h => ?_⟩
  · rw [if_neg (by omega)] at hq
    obtain ⟨X, hX⟩ := nat_of t1.1
    obtain ⟨Y, hY⟩ := nat_of t2.2.1
    rw [hX, hY] at h hq ⊢
    rw [hX] at t1
    rw [hY] at t2
    rw [Int.toNat_natCast, Int.toNat_natCast] at hq
    have HQ : ∀ t : Nat, t < b → bt (w 14 (ro 1 X)) (cq bs k + cv bs k * ((t : Int) + 1)).toNat = decide (0 < onN L bs (2 * bs.length + 2) (X : Int) (cq bs k + cv bs k * ((t : Int) + 1))) := fun t ht => by
      have h0 : 0 ≤ cq bs k + cv bs k * ((t : Int) + 1) ∧ cq bs k + cv bs k * ((t : Int) + 1) ≤ 12 := by
        rcases cv_pm bs k with hu | hu <;> rw [hu] at hY ⊢ <;> omega
      obtain ⟨z, hz⟩ := nat_of h0.1
      rw [hz, Int.toNat_natCast]
      exact (cb X (by omega) z (by omega)).2.2.2
    have HP : ∀ t : Nat, t < a → bt (w 14 (ro 0 Y)) (cp bs k + cu bs k * ((t : Int) + 1)).toNat = decide (0 < onN L bs (2 * bs.length + 2) (cp bs k + cu bs k * ((t : Int) + 1)) (Y : Int)) := fun t ht => by
      have h0 : 0 ≤ cp bs k + cu bs k * ((t : Int) + 1) ∧ cp bs k + cu bs k * ((t : Int) + 1) ≤ 12 := by
        rcases cu_pm bs k with hu | hu <;> rw [hu] at hX ⊢ <;> omega
      obtain ⟨z, hz⟩ := nat_of h0.1
      rw [hz, Int.toNat_natCast]
      exact (cb Y (by omega) z (by omega)).2.2.1
    refine s_isAnyTaken (al := 1) (ln := X) (by decide) (by omega) hb (cv_pm bs k) ⟨by omega, by omega⟩ ⟨by omega, by omega⟩ (fun hy => ⟨fun _ => ?_, fun h => absurd h (by decide)⟩) (fun hn => ⟨fun h => absurd rfl h, fun _ => ?_⟩)
    · unfold k_X0_reasonWithinReach_104 k_X0_reasonWithinReach_109
      obtain ⟨t, ht, htb⟩ := hy
      rw [HQ t ht] at htb
      rw [if_pos (Or.inl (show 0 < hitQ L bs (X : Int) (cq bs k) (cv bs k) b from fb_ct_pos.mpr ⟨t, ht, htb⟩))] at hq
      exact ⟨fun h => absurd h (by decide), fun _ => hq⟩
    · refine s_isAnyTaken (al := 0) (ln := Y) (by decide) (by omega) ha (cu_pm bs k) ⟨by omega, by omega⟩ ⟨by omega, by omega⟩ (fun hy => ⟨fun h => absurd h (by decide), fun _ => ?_⟩) (fun hn2 => ⟨fun _ => ?_, fun h => absurd rfl h⟩)
      · unfold k_X0_reasonWithinReach_104 k_X0_reasonWithinReach_109
        obtain ⟨t, ht, htb⟩ := hy
        rw [HP t ht] at htb
        rw [if_pos (Or.inr (show 0 < hitP L bs (cp bs k) (cu bs k) (Y : Int) a from fb_ct_pos.mpr ⟨t, ht, htb⟩))] at hq
        exact ⟨fun h => absurd h (by decide), fun _ => hq⟩
      · unfold k_X0_reasonWithinReach_109
        rw [if_neg] at hq
        · exact ⟨fun _ => hq, fun h => absurd rfl h⟩
        · rintro (h3 | h3)
          · obtain ⟨t, ht, htb⟩ := fb_ct_pos.mp h3
            have := hn t ht
            rw [HQ t ht, htb] at this
            exact absurd this (by decide)
          · obtain ⟨t, ht, htb⟩ := fb_ct_pos.mp h3
            have := hn2 t ht
            rw [HP t ht, htb] at this
            exact absurd this (by decide)
  · rw [if_pos (by omega)] at hq
    exact hq
theorem s_reasonAgainst {L : Int} {bs : List Bx} (hL : 4 ≤ L ∧ L ≤ 12) (hv : Val L bs) {w : Wd} (hc : CR L bs w) {k a b : Nat} (hk : k < 5 * bs.length + 1) (ha : 1 ≤ a ∧ a ≤ 12) (hb : 1 ≤ b ∧ b ≤ 12) {Q : Int32 → Wd → Prop} (hq : Q (iI (whyN L bs k a b)) w) : k_X0_reasonAgainst (iI k) (iI a) (iI b) w Q := by
  unfold k_X0_reasonAgainst
  have l0 := rch_le (pcB L bs k 0)
  have l1 := rch_le (pcB L bs k 1)
  unfold whyN at hq
  unfold rchK at hq
  refine s_reach hL hv hc hk (al := 0) (by decide) ?_
  unfold rchK
  rw [iI_lt (by constructor <;> omega) (by constructor <;> omega)]
  refine ⟨fun h => ?_, fun h => ?_⟩
  · rw [if_pos (Or.inl h)] at hq
    exact hq
  · refine s_reach hL hv hc hk (al := 1) (by decide) ?_
    unfold rchK
    rw [iI_le (by constructor <;> omega) (by constructor <;> omega)]
    refine ⟨fun h2 => ?_, fun h2 => ?_⟩
    · rw [if_neg (by omega)] at hq
      exact s_reasonWithin hL hv hc hk ha.1 hb.1 (by unfold rchK; omega) (by unfold rchK; omega) hq
    · rw [if_pos (Or.inr (by omega))] at hq
      exact hq
