/-! images and counts -/
def kb (b : Bool) : Int32 := if b then 1 else 0
def kbs (b0 b1 : Bool) : Int32 := kb b0 + 2 * kb b1
theorem kb_0 (b : Bool) : kb b = 0 ↔ b = false := by cases b <;> decide
theorem kbs_or0 (b0 b1 : Bool) : kbs b0 b1 ||| ((1 : Int32) <<< ((0 : Int32) &&& 31)) = kbs true b1 := by cases b0 <;> cases b1 <;> decide
theorem kbs_or1 (b0 b1 : Bool) : kbs b0 b1 ||| ((1 : Int32) <<< ((1 : Int32) &&& 31)) = kbs b0 true := by cases b0 <;> cases b1 <;> decide
theorem kbs_b0 (b0 b1 : Bool) : bt (kbs b0 b1) 0 = b0 := by cases b0 <;> cases b1 <;> decide
theorem kbs_b1 (b0 b1 : Bool) : bt (kbs b0 b1) 1 = b1 := by cases b0 <;> cases b1 <;> decide
def Both (L : Int) (bs : List Bx) (w : Wd) (f : Nat → Int32) : Prop := (4 ≤ L ∧ L ≤ 12) ∧ Val L bs ∧ CR L bs w ∧ MRow f L bs
/-- what is kept: the program's bits and cards, the model's rows 1 and 2 -/
def Img (wh wi wj : Wd) (f1 f2 : Nat → Int32) : Prop := ∃ b0 b1 : Bool, wh 3 0 = kbs b0 b1 ∧ f2 0 = kb b0 ∧ f2 1 = kb b1 ∧ (b0 = true → ∃ L bs, Both L bs wi f1) ∧ (b1 = true → ∃ L bs, Both L bs wj (fun i => f1 (20 + i)))
def Inv (wh wc wi wj wm : Wd) : Prop := (∃ L bs, Both L bs wc (wm 0)) ∧ Img wh wi wj (wm 1) (wm 2)
theorem MRow_ext {L : Int} {bs : List Bx} (hlen : bs.length ≤ 6) {f g : Nat → Int32} (e : ∀ i, i < 20 → f i = g i) (h : MRow g L bs) : MRow f L bs := by
  obtain ⟨h0, h1, h2⟩ := h
  refine ⟨by rw [e 0 (by omega), h0], by rw [e 1 (by omega), h1], fun i hi => ?_⟩
  rw [e _ (by omega), e _ (by omega), e _ (by omega)]
  exact h2 i hi
theorem s_isImage {z : Int} (hz : ir z) {Q : Int32 → Prop} (q1 : z = 0 ∨ z = 1 → Q 1) (q0 : ¬ (z = 0 ∨ z = 1) → Q 0) : k_X3_isImage (iI z) Q := by
  have e0 := iI_eq (a := z) (b := 0) hz (by constructor <;> omega)
  have e1 := iI_eq (a := z) (b := 1) hz (by constructor <;> omega)
  unfold k_X3_isImage k_X3_isImage_9
  exact ⟨fun h => q1 (Or.inl (e0.mp h)), fun h => ⟨fun h1 => q0 (fun h2 => h2.elim (fun g => h (e0.mpr g)) (fun g => h1 (e1.mpr g))), fun h1 => q1 (Or.inr (e1.mp h1))⟩⟩
theorem s_imageM {z : Nat} (hz : z < 2) {wm : Wd} {Q : Int32 → Wd → Prop} (hq : ∀ w' : Wd, w' 0 = wm 0 → (∀ i, i < 20 → w' 1 (20 * z + i) = wm 0 i) → (∀ j, (j < 20 * z ∨ 20 * z + 20 ≤ j) → w' 1 j = wm 1 j) → w' 2 z = 1 → (∀ j, j ≠ z → w' 2 j = wm 2 j) → Q 1 w') : k_X4_image (iI z) wm Q := by
  unfold k_X4_image
  refine s_in (l := 0) (h := 1) (by constructor <;> omega) (by constructor <;> omega) (by constructor <;> omega) (fun _ _ => ⟨fun _ => ?_, fun h => absurd h (by decide)⟩) (fun h => absurd ⟨by omega, by omega⟩ h)
  refine lpf_run (fun u => ∃ n : Nat, n ≤ 20 ∧ u.1 = iI z ∧ u.2.1 = iI n ∧ (∀ r, r ≠ 1 → u.2.2 r = wm r) ∧ (∀ i, i < n → u.2.2 1 (20 * z + i) = wm 0 i) ∧ (∀ j, (j < 20 * z ∨ 20 * z + n ≤ j) → u.2.2 1 j = wm 1 j)) (fun u => 20 - u.2.1.toNatClampNeg) _ ⟨0, by omega, rfl, rfl, fun _ _ => rfl, fun i hi => absurd hi (by omega), fun _ _ => rfl⟩ ?_
  rintro K ⟨a1, a2, w1⟩ ⟨n, hn, e1, e2, h0, h1, h2⟩ ih
  dsimp only at e1 e2 h0 h1 h2 ih ⊢
  subst e1; subst e2
  have ee : iI (n : Int) + 1 = iI ((n + 1 : Nat) : Int) := by simp only [li_0, li_1, li_2, li_3, li_4, li_5, li_6, li_7, li_8, li_9, li_10, li_11, li_12, li_13, li_14, li_15, li_16, li_20, li_24, li_25, li_26, li_31, li_40, li_41, li_100, li_169, li_600, li_1000, li_10000, li_100000, lm_1, lm_2, lm_3, lm_4, lm_5, lm_6, lm_600, lm_10000, lm_12, iI_add, iI_sub, iI_mul, iI_neg]; rfl
  have ex : (20 : Int32) * iI (z : Int) + iI (n : Int) = iI ((20 * z + n : Nat) : Int) := by simp only [li_0, li_1, li_2, li_3, li_4, li_5, li_6, li_7, li_8, li_9, li_10, li_11, li_12, li_13, li_14, li_15, li_16, li_20, li_24, li_25, li_26, li_31, li_40, li_41, li_100, li_169, li_600, li_1000, li_10000, li_100000, lm_1, lm_2, lm_3, lm_4, lm_5, lm_6, lm_600, lm_10000, lm_12, iI_add, iI_sub, iI_mul, iI_neg]; congr 1
  unfold k_X4_image_14
  rw [ex, ee, li_20, iI_le (by constructor <;> omega) (by constructor <;> omega), tnN (by omega), tnN (by omega), tnN (by omega)]
  refine ⟨fun h => ⟨inN (by omega) (by decide), ?_⟩, fun h => ⟨inN (by omega) (by decide), inN (by omega) (by decide), ?_⟩⟩
  · have : n = 20 := by omega
    subst this
    refine hq _ ?_ (fun i hi => ?_) (fun j hj => ?_) ?_ (fun j hj => ?_)
    · rw [up2_ne (by decide), h0 0 (by decide)]
    · rw [up2_ne (by decide), h1 i hi]
    · rw [up2_ne (by decide), h2 j hj]
    · rw [up2_at, if_pos rfl]
    · rw [up2_at, if_neg hj, h0 2 (by decide)]
  · refine ih _ ⟨n + 1, by omega, rfl, rfl, fun r hr => ?_, fun i hi => ?_, fun j hj => ?_⟩ ?_
    · dsimp only; rw [up2_ne hr, h0 r hr]
    · dsimp only
      rw [up2_at]
      by_cases hin : i = n
      · subst hin; rw [if_pos rfl, h0 0 (by decide)]
      · rw [if_neg (by omega), h1 i (by omega)]
    · dsimp only
      rw [up2_at, if_neg (by omega), h2 j (by omega)]
    · dsimp only
      rw [tnN (by omega), tnN (by omega)]
      omega
theorem s_restoreM {z : Nat} (hz : z < 2) {wm : Wd} (hk : ¬ wm 2 z = 0) {Q : Int32 → Wd → Prop} (hq : ∀ w' : Wd, (∀ i, i < 20 → w' 0 i = wm 1 (20 * z + i)) → (∀ r, r ≠ 0 → w' r = wm r) → Q 1 w') : k_X4_restore (iI z) wm Q := by
  unfold k_X4_restore
  refine s_in (l := 0) (h := 1) (by constructor <;> omega) (by constructor <;> omega) (by constructor <;> omega) (fun _ _ => ⟨fun _ => ⟨inN (by omega) (by decide), ?_⟩, fun h => absurd h (by decide)⟩) (fun h => absurd ⟨by omega, by omega⟩ h)
  rw [tnN (by omega)]
  refine ⟨fun _ => ?_, fun h => absurd h hk⟩
  refine lpf_run (fun u => ∃ n : Nat, n ≤ 20 ∧ u.1 = iI z ∧ u.2.1 = iI n ∧ (∀ r, r ≠ 0 → u.2.2 r = wm r) ∧ (∀ i, i < n → u.2.2 0 i = wm 1 (20 * z + i))) (fun u => 20 - u.2.1.toNatClampNeg) _ ⟨0, by omega, rfl, rfl, fun _ _ => rfl, fun i hi => absurd hi (by omega)⟩ ?_
  rintro K ⟨a1, a2, w1⟩ ⟨n, hn, e1, e2, h0, h1⟩ ih
  dsimp only at e1 e2 h0 h1 ih ⊢
  subst e1; subst e2
  have ee : iI (n : Int) + 1 = iI ((n + 1 : Nat) : Int) := by simp only [li_0, li_1, li_2, li_3, li_4, li_5, li_6, li_7, li_8, li_9, li_10, li_11, li_12, li_13, li_14, li_15, li_16, li_20, li_24, li_25, li_26, li_31, li_40, li_41, li_100, li_169, li_600, li_1000, li_10000, li_100000, lm_1, lm_2, lm_3, lm_4, lm_5, lm_6, lm_600, lm_10000, lm_12, iI_add, iI_sub, iI_mul, iI_neg]; rfl
  have ex : (20 : Int32) * iI (z : Int) + iI (n : Int) = iI ((20 * z + n : Nat) : Int) := by simp only [li_0, li_1, li_2, li_3, li_4, li_5, li_6, li_7, li_8, li_9, li_10, li_11, li_12, li_13, li_14, li_15, li_16, li_20, li_24, li_25, li_26, li_31, li_40, li_41, li_100, li_169, li_600, li_1000, li_10000, li_100000, lm_1, lm_2, lm_3, lm_4, lm_5, lm_6, lm_600, lm_10000, lm_12, iI_add, iI_sub, iI_mul, iI_neg]; congr 1
  unfold k_X4_restore_26
  rw [ex, ee, li_20, iI_le (by constructor <;> omega) (by constructor <;> omega), tnN (by omega), tnN (by omega)]
  refine ⟨fun h => ?_, fun h => ⟨inN (by omega) (by decide), inN (by omega) (by decide), ?_⟩⟩
  · have : n = 20 := by omega
    subst this
    exact hq w1 h1 h0
  · refine ih _ ⟨n + 1, by omega, rfl, rfl, fun r hr => ?_, fun i hi => ?_⟩ ?_
    · dsimp only; rw [up2_ne hr, h0 r hr]
    · dsimp only
      rw [up2_at]
      by_cases hin : i = n
      · subst hin; rw [if_pos rfl, h0 1 (by decide)]
      · rw [if_neg hin, h1 i (by omega)]
    · dsimp only
      rw [tnN (by omega), tnN (by omega)]
      omega
theorem s_imageN {z : Int} (hz : ir z) (hn : ¬ (z = 0 ∨ z = 1)) {wm : Wd} {Q : Int32 → Wd → Prop} (hq : Q (-2) wm) : k_X4_image (iI z) wm Q := by
  unfold k_X4_image
  exact s_in (l := 0) (h := 1) hz (by constructor <;> omega) (by constructor <;> omega) (fun h1 h2 => absurd (by omega) hn) (fun _ => ⟨fun h => absurd rfl h, fun _ => hq⟩)
theorem s_restoreN {z : Int} (hz : ir z) (hn : ¬ (z = 0 ∨ z = 1)) {wm : Wd} {Q : Int32 → Wd → Prop} (hq : Q (-2) wm) : k_X4_restore (iI z) wm Q := by
  unfold k_X4_restore
  exact s_in (l := 0) (h := 1) hz (by constructor <;> omega) (by constructor <;> omega) (fun h1 h2 => absurd (by omega) hn) (fun _ => ⟨fun h => absurd rfl h, fun _ => hq⟩)
theorem s_restore0 {z : Nat} (hz : z < 2) {wm : Wd} (hk : wm 2 z = 0) {Q : Int32 → Wd → Prop} (hq : Q (-3) wm) : k_X4_restore (iI z) wm Q := by
  unfold k_X4_restore
  refine s_in (l := 0) (h := 1) (by constructor <;> omega) (by constructor <;> omega) (by constructor <;> omega) (fun _ _ => ⟨fun _ => ⟨inN (by omega) (by decide), ?_⟩, fun h => absurd h (by decide)⟩) (fun h => absurd ⟨by omega, by omega⟩ h)
  rw [tnN (by omega)]
  exact ⟨fun h => absurd hk h, fun _ => hq⟩
/-! the program's image and restore beside the model's -/
theorem o_image {P : Prop → Prop} (hP : ∀ X : Prop, X → P X) {z : Int} (hz : ir z) {wh wc wi wj wm : Wd} (h : Inv wh wc wi wj wm) {F : Wd → Wd → Wd → Wd → Wd → Prop} (hF : ∀ wh' wc' wi' wj' wm' : Wd, Inv wh' wc' wi' wj' wm' → F wh' wc' wi' wj' wm') :
    k_X3_image (iI z) wh wc wi wj (fun r wh' wc' wi' wj' => P (k_X4_image (iI z) wm (fun r2 wm' => (r = r2 → F wh' wc' wi' wj' wm') ∧ (¬ r = r2 → (0 : Int32) = 1)))) := by
  obtain ⟨⟨L, bs, hL, hv, hc, hr⟩, b0, b1, k0, k1, k2, i0, i1⟩ := id h
  have hlen := Val_len hv
  unfold k_X3_image
  refine s_isImage hz (fun h1 => ⟨fun _ => ?_, fun h => absurd h (by decide)⟩) (fun h1 => ⟨fun h => absurd rfl h, fun _ => ?_⟩)
  · rcases h1 with rfl | rfl
    · refine ⟨fun _ => s_copyFrom hL hv hc (fun w' hc' => hP _ (s_imageM (z := 0) (by decide) (fun m' g0 g1 g2 g3 g4 => ⟨fun _ => hF _ _ _ _ _ ⟨⟨L, bs, hL, hv, hc, MRow_same g0 hr⟩, true, b1, ?_, g3, ?_, fun _ => ⟨L, bs, hL, hv, hc', MRow_ext hlen (fun i hi => ?_) hr⟩, fun hb => ?_⟩, fun h => absurd rfl h⟩))), fun h => absurd rfl h⟩
      · rw [up2_at, if_pos rfl, k0]
        exact kbs_or0 b0 b1
      · rw [g4 1 (by decide)]; exact k2
      · have := g1 i hi
        rw [Nat.mul_zero, Nat.zero_add] at this
        exact this
      · obtain ⟨L', bs', c1, c2, c3, c4⟩ := i1 hb
        exact ⟨L', bs', c1, c2, c3, MRow_ext (Val_len c2) (fun i hi => g2 (20 + i) (by omega)) c4⟩
    · refine ⟨fun h => absurd h (by decide), fun _ => s_copyFrom hL hv hc (fun w' hc' => hP _ (s_imageM (z := 1) (by decide) (fun m' g0 g1 g2 g3 g4 => ⟨fun _ => hF _ _ _ _ _ ⟨⟨L, bs, hL, hv, hc, MRow_same g0 hr⟩, b0, true, ?_, ?_, g3, fun hb => ?_, fun _ => ⟨L, bs, hL, hv, hc', MRow_ext hlen (fun i hi => ?_) hr⟩⟩, fun h => absurd rfl h⟩)))⟩
      · rw [up2_at, if_pos rfl, k0]
        exact kbs_or1 b0 b1
      · rw [g4 0 (by decide)]; exact k1
      · obtain ⟨L', bs', c1, c2, c3, c4⟩ := i0 hb
        exact ⟨L', bs', c1, c2, c3, MRow_ext (Val_len c2) (fun i hi => g2 i (by omega)) c4⟩
      · exact g1 i hi
  · exact hP _ (s_imageN hz h1 ⟨fun _ => hF _ _ _ _ _ h, fun h => absurd rfl h⟩)
theorem o_restore {P : Prop → Prop} (hP : ∀ X : Prop, X → P X) {z : Int} (hz : ir z) {wh wc wi wj wm : Wd} (h : Inv wh wc wi wj wm) {F : Wd → Wd → Wd → Wd → Wd → Prop} (hF : ∀ wh' wc' wi' wj' wm' : Wd, Inv wh' wc' wi' wj' wm' → F wh' wc' wi' wj' wm') :
    k_X3_restore (iI z) wh wc wi wj (fun r wh' wc' wi' wj' => P (k_X4_restore (iI z) wm (fun r2 wm' => (r = r2 → F wh' wc' wi' wj' wm') ∧ (¬ r = r2 → (0 : Int32) = 1)))) := by
  obtain ⟨-, b0, b1, k0, k1, k2, i0, i1⟩ := id h
  have himg := h.2
  unfold k_X3_restore
  refine s_isImage hz (fun h1 => ⟨fun _ => ?_, fun h => absurd h (by decide)⟩) (fun h1 => ⟨fun h => absurd rfl h, fun _ => ?_⟩)
  · rw [k0]
    refine s_isBit hz (fun g1 g2 g3 => ⟨fun _ => ?_, fun h => absurd h (by decide)⟩) (fun g1 => ⟨fun h => absurd rfl h, fun _ => hP _ ?_⟩)
    · rcases h1 with rfl | rfl
      · have hb : b0 = true := (kbs_b0 b0 b1).symm.trans g3
        obtain ⟨L, bs, c1, c2, c3, c4⟩ := i0 hb
        refine ⟨fun _ => s_copyFrom c1 c2 c3 (fun w' hc' => hP _ (s_restoreM (z := 0) (by decide) (fun h0 => ?_) (fun m' e1 e2 => ⟨fun _ => hF _ _ _ _ _ ⟨⟨L, bs, c1, c2, hc', MRow_ext (Val_len c2) (fun i hi => ?_) c4⟩, ?_⟩, fun h => absurd rfl h⟩))), fun h => absurd rfl h⟩
        · rw [k1, kb_0, hb] at h0
          exact absurd h0 (by decide)
        · have := e1 i hi
          rw [Nat.mul_zero, Nat.zero_add] at this
          exact this
        · rw [e2 1 (by decide), e2 2 (by decide)]
          exact himg
      · have hb : b1 = true := (kbs_b1 b0 b1).symm.trans g3
        obtain ⟨L, bs, c1, c2, c3, c4⟩ := i1 hb
        refine ⟨fun h => absurd h (by decide), fun _ => s_copyFrom c1 c2 c3 (fun w' hc' => hP _ (s_restoreM (z := 1) (by decide) (fun h0 => ?_) (fun m' e1 e2 => ⟨fun _ => hF _ _ _ _ _ ⟨⟨L, bs, c1, c2, hc', MRow_ext (Val_len c2) (fun i hi => ?_) c4⟩, ?_⟩, fun h => absurd rfl h⟩)))⟩
        · rw [k2, kb_0, hb] at h0
          exact absurd h0 (by decide)
        · exact e1 i hi
        · rw [e2 1 (by decide), e2 2 (by decide)]
          exact himg
    · rcases h1 with rfl | rfl
      · have hb : b0 = false := by
          rcases g1 with g | g | g
          · omega
          · omega
          · exact (kbs_b0 b0 b1).symm.trans g
        exact s_restore0 (z := 0) (by decide) (by rw [k1, hb]; rfl) ⟨fun _ => hF _ _ _ _ _ h, fun h => absurd rfl h⟩
      · have hb : b1 = false := by
          rcases g1 with g | g | g
          · omega
          · omega
          · exact (kbs_b1 b0 b1).symm.trans g
        exact s_restore0 (z := 1) (by decide) (by rw [k2, hb]; rfl) ⟨fun _ => hF _ _ _ _ _ h, fun h => absurd rfl h⟩
  · exact hP _ (s_restoreN hz h1 ⟨fun _ => hF _ _ _ _ _ h, fun h => absurd rfl h⟩)
/-! count -/
def cntA (L : Int) (bs : List Bx) (kk : Int32) (y : Int32) : Int32 := if y = 0 then iI bs.length else if y = 1 then iI (2 * bs.length + 2) else if y = 2 then iI (5 * bs.length + 1) else if y = 3 then iI L else if y = 4 then iI (szS bs bs.length) else if y = 5 then iI (fb_ct (plB L bs) 169) else if y = 6 then kk else -2
theorem a_count {L : Int} {y : Int32} {bs : List Bx} {wh wc : Wd} (hL : 4 ≤ L ∧ L ≤ 12) (hv : Val L bs) (hc : CR L bs wc) {Q : Int32 → Wd → Wd → Prop} (hq : Q (cntA L bs (wh 3 0) y) wh wc) : k_X3_count y wh wc Q := by
  unfold k_X3_count
  rw [hc.2.1, hc.1]
  refine ⟨fun h => ?_, fun h => s_facesC hc ?_, fun h => ?_, fun h => ?_, fun h => s_sumOfSizes hv hc ?_, fun h => s_placesOnFaces hL hv hc ?_, fun h => ?_, fun ⟨n0, n1, n2, n3, n4, n5, n6⟩ => ?_⟩
  · subst h; exact hq
  · subst h; exact hq
  · subst h
    unfold k_X0_corners
    rw [hc.2.1]
    have e : (1 : Int32) + 5 * iI (bs.length : Int) = iI (5 * bs.length + 1) := by simp only [li_0, li_1, li_2, li_3, li_4, li_5, li_6, li_7, li_8, li_9, li_10, li_11, li_12, li_13, li_14, li_15, li_16, li_20, li_24, li_25, li_26, li_31, li_40, li_41, li_100, li_169, li_600, li_1000, li_10000, li_100000, lm_1, lm_2, lm_3, lm_4, lm_5, lm_6, lm_600, lm_10000, lm_12, iI_add, iI_sub, iI_mul, iI_neg]; congr 1; omega
    rw [e]
    exact hq
  · subst h; exact hq
  · subst h; exact hq
  · subst h; exact hq
  · subst h; exact hq
  · unfold cntA at hq
    rw [if_neg n0, if_neg n1, if_neg n2, if_neg n3, if_neg n4, if_neg n5, if_neg n6] at hq
    exact hq
theorem a_countM {L : Int} {y : Int32} {bs : List Bx} {wm : Wd} {b0 b1 : Bool} (hL : 4 ≤ L ∧ L ≤ 12) (hv : Val L bs) (hr : MRow (wm 0) L bs) (k1 : wm 2 0 = kb b0) (k2 : wm 2 1 = kb b1) {Q : Int32 → Wd → Prop} (hq : ∀ wm' : Wd, (∀ r, r ≤ 2 → wm' r = wm r) → Q (cntA L bs (kbs b0 b1) y) wm') : k_X4_count y wm Q := by
  unfold k_X4_count
  refine s_lay hL hv hr (fun w g m => ?_)
  replace hq := hq w (fun r h => g r (Or.inl h))
  have hr' : MRow (w 0) L bs := MRow_same (g 0 (by omega)) hr
  rw [z0N, o1N, hr'.1, hr'.2.1, m.1, m.2.1]
  refine ⟨fun h => ⟨in1 (by decide) (by decide), ?_⟩, fun h => ?_, fun h => ?_, fun h => ⟨in0 (by decide) (by decide), ?_⟩, fun h => s_sizes hv hr' ?_, fun h => s_placesM (Val_len hv) m.2.2.2.2 ?_, fun h => ⟨in0 (by decide) (by decide), ?_⟩, fun ⟨n0, n1, n2, n3, n4, n5, n6⟩ => ?_⟩
  · subst h; exact hq
  · subst h; exact hq
  · subst h; exact hq
  · subst h; exact hq
  · subst h; exact hq
  · subst h; exact hq
  · subst h
    change Q (kbs b0 b1) w at hq
    unfold k_X4_count_96
    rw [o1N, g 2 (by omega), k1, k2, kb_0, kb_0]
    have i1 : vp_in 1 2 := in1 (by decide) (by decide)
    cases b0 <;> cases b1
    · exact ⟨fun _ => ⟨i1, fun _ => hq, fun h => absurd rfl h⟩, fun h => absurd rfl h⟩
    · exact ⟨fun _ => ⟨i1, fun h => absurd h (by decide), fun _ => hq⟩, fun h => absurd rfl h⟩
    · exact ⟨fun h => absurd h (by decide), fun _ => ⟨i1, fun _ => hq, fun h => absurd rfl h⟩⟩
    · exact ⟨fun h => absurd h (by decide), fun _ => ⟨i1, fun h => absurd h (by decide), fun _ => hq⟩⟩
  · unfold cntA at hq
    rw [if_neg n0, if_neg n1, if_neg n2, if_neg n3, if_neg n4, if_neg n5, if_neg n6] at hq
    exact hq
