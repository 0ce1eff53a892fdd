/-! the law's loop -/
section
variable {K : (Int32 × Wd × Wd × Wd × Wd × Wd × Wd × Wd) → Prop} {N i : Nat} {xs : Nat → Int32} {wh wc wi wj ws wt wm : Wd}
/-- the next round of the loop may begin at every state that keeps Inv -/
def Nx (K : (Int32 × Wd × Wd × Wd × Wd × Wd × Wd × Wd) → Prop) (N : Nat) (xs : Nat → Int32) (i : Nat) : Prop := ∀ wh wc wi wj ws wt wm : Wd, Inv wh wc wi wj wm → k_L_law_570 K N xs (iI i) wh wc wi wj ws wt wm
theorem x1N : iI (i : Int) + 1 = iI ((i + 1 : Nat) : Int) := by simp only [li_0, li_1, li_2, li_3, li_4, li_5, li_6, li_7, li_8, li_9, li_10, li_11, li_12, li_13, li_14, li_15, li_16, li_20, li_24, li_25, li_26, li_31, li_40, li_41, li_100, li_169, li_600, li_1000, li_10000, li_100000, lm_1, lm_2, lm_3, lm_4, lm_5, lm_6, lm_600, lm_10000, lm_12, iI_add, iI_sub, iI_mul, iI_neg]; rfl
theorem x2N : iI (i : Int) + 2 = iI ((i + 2 : Nat) : Int) := by simp only [li_0, li_1, li_2, li_3, li_4, li_5, li_6, li_7, li_8, li_9, li_10, li_11, li_12, li_13, li_14, li_15, li_16, li_20, li_24, li_25, li_26, li_31, li_40, li_41, li_100, li_169, li_600, li_1000, li_10000, li_100000, lm_1, lm_2, lm_3, lm_4, lm_5, lm_6, lm_600, lm_10000, lm_12, iI_add, iI_sub, iI_mul, iI_neg]; rfl
theorem x3N : iI (i : Int) + 3 = iI ((i + 3 : Nat) : Int) := by simp only [li_0, li_1, li_2, li_3, li_4, li_5, li_6, li_7, li_8, li_9, li_10, li_11, li_12, li_13, li_14, li_15, li_16, li_20, li_24, li_25, li_26, li_31, li_40, li_41, li_100, li_169, li_600, li_1000, li_10000, li_100000, lm_1, lm_2, lm_3, lm_4, lm_5, lm_6, lm_600, lm_10000, lm_12, iI_add, iI_sub, iI_mul, iI_neg]; rfl
/-- a call that keeps the state, on both sides -/
theorem Inv_keep {L : Int} {bs : List Bx} {wc' wm' : Wd} (hL : 4 ≤ L ∧ L ≤ 12) (hv : Val L bs) (hc : CR L bs wc') (hr : MRow (wm 0) L bs) (hi : Img wh wi wj (wm 1) (wm 2)) (g : ∀ r, r ≤ 2 → wm' r = wm r) : Inv wh wc' wi wj wm' := by
  refine ⟨⟨L, bs, hL, hv, hc, MRow_same (g 0 (by decide)) hr⟩, ?_⟩
  rw [g 1 (by decide), g 2 (by decide)]
  exact hi
theorem Inv_new {L : Int} {bs : List Bx} {wc' wm' : Wd} (hL : 4 ≤ L ∧ L ≤ 12) (hv : Val L bs) (hc : CR L bs wc') (hr : MRow (wm' 0) L bs) (hi : Img wh wi wj (wm 1) (wm 2)) (g1 : wm' 1 = wm 1) (g2 : wm' 2 = wm 2) : Inv wh wc' wi wj wm' := by
  refine ⟨⟨L, bs, hL, hv, hc, hr⟩, ?_⟩
  rw [g1, g2]
  exact hi
theorem b_size (hN : N ≤ 2048) (hi : i + 4 ≤ N) (nx : Nx K N xs i) (h : Inv wh wc wi wj wm) : k_L_law_112 K N xs (iI i) wh wc wi wj ws wt wm := by
  obtain ⟨⟨L, bs, hL, hv, hc, hr⟩, hg⟩ := h
  have i1 := inN (n := i + 1) (N := N) (by omega) (by omega)
  obtain ⟨z1, e1, r1⟩ := iI_ex (xs (i + 1))
  unfold k_L_law_112
  rw [x1N, tnN (by omega), e1]
  exact ⟨i1, a_size hv hc r1 (fun wc' hc' => ⟨i1, a_sizeM hv hr r1 (fun wm' hr' g1 g2 => ⟨fun _ => nx _ _ _ _ _ _ _ (Inv_new (sizeS_ok hL hv).1 (sizeS_ok hL hv).2 hc' hr' hg g1 g2), fun h => absurd rfl h⟩)⟩)⟩
theorem b_put (hN : N ≤ 2048) (hi : i + 4 ≤ N) (nx : Nx K N xs i) (h : Inv wh wc wi wj wm) : k_L_law_135 K N xs (iI i) wh wc wi wj ws wt wm := by
  obtain ⟨⟨L, bs, hL, hv, hc, hr⟩, hg⟩ := h
  have i1 := inN (n := i + 1) (N := N) (by omega) (by omega)
  have i2 := inN (n := i + 2) (N := N) (by omega) (by omega)
  have i3 := inN (n := i + 3) (N := N) (by omega) (by omega)
  obtain ⟨z1, e1, r1⟩ := iI_ex (xs (i + 1))
  obtain ⟨z2, e2, r2⟩ := iI_ex (xs (i + 2))
  obtain ⟨z3, e3, r3⟩ := iI_ex (xs (i + 3))
  unfold k_L_law_135
  rw [x1N, x2N, x3N, tnN (by omega), tnN (by omega), tnN (by omega), e1, e2, e3]
  exact ⟨i1, i2, i3, a_put hL hv hc r1 r2 r3 (fun wc' hc' => ⟨i1, i2, i3, a_putM hL hv hr r1 r2 r3 (fun wm' hr' g1 g2 => ⟨fun _ => nx _ _ _ _ _ _ _ (Inv_new hL (putS_ok hL hv) hc' hr' hg g1 g2), fun h => absurd rfl h⟩)⟩)⟩
theorem b_off (nx : Nx K N xs i) (h : Inv wh wc wi wj wm) : k_L_law_178 K N xs (iI i) wh wc wi wj ws wt wm := by
  obtain ⟨⟨L, bs, hL, hv, hc, hr⟩, hg⟩ := h
  unfold k_L_law_178
  exact a_off hL hv hc (fun wc' hc' => a_offM hv hr (fun wm' hr' g1 g2 => ⟨fun _ => nx _ _ _ _ _ _ _ (Inv_new hL (offS_ok hv) hc' hr' hg g1 g2), fun h => absurd rfl h⟩))
theorem b_why (hN : N ≤ 2048) (hi : i + 4 ≤ N) (nx : Nx K N xs i) (h : Inv wh wc wi wj wm) : k_L_law_191 K N xs (iI i) wh wc wi wj ws wt wm := by
  obtain ⟨⟨L, bs, hL, hv, hc, hr⟩, hg⟩ := h
  have i1 := inN (n := i + 1) (N := N) (by omega) (by omega)
  have i2 := inN (n := i + 2) (N := N) (by omega) (by omega)
  have i3 := inN (n := i + 3) (N := N) (by omega) (by omega)
  obtain ⟨z1, e1, r1⟩ := iI_ex (xs (i + 1))
  obtain ⟨z2, e2, r2⟩ := iI_ex (xs (i + 2))
  obtain ⟨z3, e3, r3⟩ := iI_ex (xs (i + 3))
  unfold k_L_law_191
  rw [x1N, x2N, x3N, tnN (by omega), tnN (by omega), tnN (by omega), e1, e2, e3]
  exact ⟨i1, i2, i3, a_why hL hv hc r1 r2 r3 ⟨i1, i2, i3, a_whyM hL hv hr r1 r2 r3 (fun wm' g => ⟨fun _ => nx _ _ _ _ _ _ _ (Inv_keep hL hv hc hr hg g), fun h => absurd rfl h⟩)⟩⟩
theorem b_corner (hN : N ≤ 2048) (hi : i + 4 ≤ N) (nx : Nx K N xs i) (h : Inv wh wc wi wj wm) : k_L_law_234 K N xs (iI i) wh wc wi wj ws wt wm := by
  obtain ⟨⟨L, bs, hL, hv, hc, hr⟩, hg⟩ := h
  have i1 := inN (n := i + 1) (N := N) (by omega) (by omega)
  have i2 := inN (n := i + 2) (N := N) (by omega) (by omega)
  obtain ⟨z1, e1, r1⟩ := iI_ex (xs (i + 1))
  unfold k_L_law_234
  rw [x1N, x2N, tnN (by omega), tnN (by omega), e1]
  exact ⟨i1, i2, a_corner hL hv hc r1 ⟨i1, i2, a_cornerM hL hv hr r1 (fun wm' g => ⟨fun _ => nx _ _ _ _ _ _ _ (Inv_keep hL hv hc hr hg g), fun h => absurd rfl h⟩)⟩⟩
theorem b_face (hN : N ≤ 2048) (hi : i + 4 ≤ N) (nx : Nx K N xs i) (h : Inv wh wc wi wj wm) : k_L_law_267 K N xs (iI i) wh wc wi wj ws wt wm := by
  obtain ⟨⟨L, bs, hL, hv, hc, hr⟩, hg⟩ := h
  have i1 := inN (n := i + 1) (N := N) (by omega) (by omega)
  have i2 := inN (n := i + 2) (N := N) (by omega) (by omega)
  obtain ⟨z1, e1, r1⟩ := iI_ex (xs (i + 1))
  unfold k_L_law_267
  rw [x1N, x2N, tnN (by omega), tnN (by omega), e1]
  exact ⟨i1, i2, a_face hv hc r1 ⟨i1, i2, a_faceM hL hv hr r1 (fun wm' g => ⟨fun _ => nx _ _ _ _ _ _ _ (Inv_keep hL hv hc hr hg g), fun h => absurd rfl h⟩)⟩⟩
theorem b_on (hN : N ≤ 2048) (hi : i + 4 ≤ N) (nx : Nx K N xs i) (h : Inv wh wc wi wj wm) : k_L_law_300 K N xs (iI i) wh wc wi wj ws wt wm := by
  obtain ⟨⟨L, bs, hL, hv, hc, hr⟩, hg⟩ := h
  have i1 := inN (n := i + 1) (N := N) (by omega) (by omega)
  have i2 := inN (n := i + 2) (N := N) (by omega) (by omega)
  obtain ⟨z1, e1, r1⟩ := iI_ex (xs (i + 1))
  obtain ⟨z2, e2, r2⟩ := iI_ex (xs (i + 2))
  unfold k_L_law_300
  rw [x1N, x2N, tnN (by omega), tnN (by omega), e1, e2]
  exact ⟨i1, i2, a_on hL hv hc r1 r2 ⟨i1, i2, a_onM hL hv hr r1 r2 (fun wm' g => ⟨fun _ => nx _ _ _ _ _ _ _ (Inv_keep hL hv hc hr hg g), fun h => absurd rfl h⟩)⟩⟩
theorem b_ways (nx : Nx K N xs i) (h : Inv wh wc wi wj wm) : k_L_law_333 K N xs (iI i) wh wc wi wj ws wt wm := by
  obtain ⟨⟨L, bs, hL, hv, hc, hr⟩, hg⟩ := h
  unfold k_L_law_333
  exact a_ways hL hv hc (fun ws' => a_waysM hL hv hr (fun wm' g => ⟨fun _ => nx _ _ _ _ _ _ _ (Inv_keep hL hv hc hr hg g), fun h => absurd rfl h⟩))
theorem b_greatest (hN : N ≤ 2048) (hi : i + 4 ≤ N) (nx : Nx K N xs i) (h : Inv wh wc wi wj wm) : k_L_law_346 K N xs (iI i) wh wc wi wj ws wt wm := by
  obtain ⟨⟨L, bs, hL, hv, hc, hr⟩, hg⟩ := h
  have i1 := inN (n := i + 1) (N := N) (by omega) (by omega)
  obtain ⟨z1, e1, r1⟩ := iI_ex (xs (i + 1))
  unfold k_L_law_346
  rw [x1N, tnN (by omega), e1]
  exact ⟨i1, a_greatest hL hv hc r1 (fun ws' => ⟨i1, a_greatestM hL hv hr r1 (fun wm' g => ⟨fun _ => nx _ _ _ _ _ _ _ (Inv_keep hL hv hc hr hg g), fun h => absurd rfl h⟩)⟩)⟩
theorem b_two (nx : Nx K N xs i) (h : Inv wh wc wi wj wm) : k_L_law_369 K N xs (iI i) wh wc wi wj ws wt wm := by
  obtain ⟨⟨L, bs, hL, hv, hc, hr⟩, hg⟩ := h
  unfold k_L_law_369
  exact a_two hL hv hc (fun wc' ws' hc' => s_twoM hL hv hr (fun wm' g => ⟨fun _ => nx _ _ _ _ _ _ _ (Inv_keep hL hv hc' hr hg g), fun h => absurd rfl h⟩))
theorem b_view (hN : N ≤ 2048) (hi : i + 4 ≤ N) (nx : Nx K N xs i) (h : Inv wh wc wi wj wm) : k_L_law_382 K N xs (iI i) wh wc wi wj ws wt wm := by
  obtain ⟨⟨L, bs, hL, hv, hc, hr⟩, hg⟩ := h
  have i1 := inN (n := i + 1) (N := N) (by omega) (by omega)
  have i2 := inN (n := i + 2) (N := N) (by omega) (by omega)
  obtain ⟨z1, e1, r1⟩ := iI_ex (xs (i + 1))
  obtain ⟨z2, e2, r2⟩ := iI_ex (xs (i + 2))
  unfold k_L_law_382
  rw [x1N, x2N, tnN (by omega), tnN (by omega), e1, e2]
  exact ⟨i1, i2, a_view hL hv hc r1 r2 ⟨i1, i2, a_viewM hL hv hr r1 r2 (fun wm' g => ⟨fun _ => nx _ _ _ _ _ _ _ (Inv_keep hL hv hc hr hg g), fun h => absurd rfl h⟩)⟩⟩
theorem b_above (hN : N ≤ 2048) (hi : i + 4 ≤ N) (nx : Nx K N xs i) (h : Inv wh wc wi wj wm) : k_L_law_415 K N xs (iI i) wh wc wi wj ws wt wm := by
  obtain ⟨⟨L, bs, hL, hv, hc, hr⟩, hg⟩ := h
  have i1 := inN (n := i + 1) (N := N) (by omega) (by omega)
  have i2 := inN (n := i + 2) (N := N) (by omega) (by omega)
  have i3 := inN (n := i + 3) (N := N) (by omega) (by omega)
  obtain ⟨z1, e1, r1⟩ := iI_ex (xs (i + 1))
  obtain ⟨z2, e2, r2⟩ := iI_ex (xs (i + 2))
  obtain ⟨z3, e3, r3⟩ := iI_ex (xs (i + 3))
  unfold k_L_law_415
  rw [x1N, x2N, x3N, tnN (by omega), tnN (by omega), tnN (by omega), e1, e2, e3]
  exact ⟨i1, i2, i3, a_above hL hv hc r1 r2 r3 (fun wt' => ⟨i1, i2, i3, a_aboveM hL hv hr r1 r2 r3 (fun wm' g => ⟨fun _ => nx _ _ _ _ _ _ _ (Inv_keep hL hv hc hr hg g), fun h => absurd rfl h⟩)⟩)⟩
theorem b_apart (hN : N ≤ 2048) (hi : i + 4 ≤ N) (nx : Nx K N xs i) (h : Inv wh wc wi wj wm) : k_L_law_458 K N xs (iI i) wh wc wi wj ws wt wm := by
  obtain ⟨⟨L, bs, hL, hv, hc, hr⟩, hg⟩ := h
  have i1 := inN (n := i + 1) (N := N) (by omega) (by omega)
  have i2 := inN (n := i + 2) (N := N) (by omega) (by omega)
  have i3 := inN (n := i + 3) (N := N) (by omega) (by omega)
  obtain ⟨z1, e1, r1⟩ := iI_ex (xs (i + 1))
  obtain ⟨z2, e2, r2⟩ := iI_ex (xs (i + 2))
  obtain ⟨z3, e3, r3⟩ := iI_ex (xs (i + 3))
  unfold k_L_law_458
  rw [x1N, x2N, x3N, tnN (by omega), tnN (by omega), tnN (by omega), e1, e2, e3]
  exact ⟨i1, i2, i3, a_apart hv hc r1 r2 r3 ⟨i1, i2, i3, a_apartM hL hv hr r1 r2 r3 (fun wm' g => ⟨fun _ => nx _ _ _ _ _ _ _ (Inv_keep hL hv hc hr hg g), fun h => absurd rfl h⟩)⟩⟩
theorem b_image (hN : N ≤ 2048) (hi : i + 4 ≤ N) (nx : Nx K N xs i) (h : Inv wh wc wi wj wm) : k_L_law_501 K N xs (iI i) wh wc wi wj ws wt wm := by
  have i1 := inN (n := i + 1) (N := N) (by omega) (by omega)
  obtain ⟨z1, e1, r1⟩ := iI_ex (xs (i + 1))
  unfold k_L_law_501
  rw [x1N, tnN (by omega), e1]
  exact ⟨i1, o_image (P := fun X => vp_in (iI ((i + 1 : Nat) : Int)) N ∧ X) (fun X hX => ⟨i1, hX⟩) r1 h (F := fun a b c d e => k_L_law_570 K N xs (iI i) a b c d ws wt e) (fun a b c d e hI => nx a b c d ws wt e hI)⟩
theorem b_restore (hN : N ≤ 2048) (hi : i + 4 ≤ N) (nx : Nx K N xs i) (h : Inv wh wc wi wj wm) : k_L_law_524 K N xs (iI i) wh wc wi wj ws wt wm := by
  have i1 := inN (n := i + 1) (N := N) (by omega) (by omega)
  obtain ⟨z1, e1, r1⟩ := iI_ex (xs (i + 1))
  unfold k_L_law_524
  rw [x1N, tnN (by omega), e1]
  exact ⟨i1, o_restore (P := fun X => vp_in (iI ((i + 1 : Nat) : Int)) N ∧ X) (fun X hX => ⟨i1, hX⟩) r1 h (F := fun a b c d e => k_L_law_570 K N xs (iI i) a b c d ws wt e) (fun a b c d e hI => nx a b c d ws wt e hI)⟩
theorem b_count (hN : N ≤ 2048) (hi : i + 4 ≤ N) (nx : Nx K N xs i) (h : Inv wh wc wi wj wm) : k_L_law_547 K N xs (iI i) wh wc wi wj ws wt wm := by
  obtain ⟨⟨L, bs, hL, hv, hc, hr⟩, hg⟩ := h
  obtain ⟨b0, b1, k0, k1, k2, j0, j1⟩ := id hg
  have i1 := inN (n := i + 1) (N := N) (by omega) (by omega)
  unfold k_L_law_547
  rw [x1N, tnN (by omega)]
  refine ⟨i1, a_count hL hv hc ⟨i1, a_countM hL hv hr k1 k2 (fun wm' g => ⟨fun _ => nx _ _ _ _ _ _ _ (Inv_keep hL hv hc hr hg g), fun h => absurd (by rw [k0]) h⟩)⟩⟩
end
theorem law_loop {N : Nat} {xs : Nat → Int32} (hN : N ≤ 2048) {wh wc wi wj ws wt wm : Wd} (h : Inv wh wc wi wj wm) : ∃ n : Nat, lpf (fun (K : (Int32 × Wd × Wd × Wd × Wd × Wd × Wd × Wd) → Prop) (u : Int32 × Wd × Wd × Wd × Wd × Wd × Wd × Wd) => k_L_law_18 K N xs u.1 u.2.1 u.2.2.1 u.2.2.2.1 u.2.2.2.2.1 u.2.2.2.2.2.1 u.2.2.2.2.2.2.1 u.2.2.2.2.2.2.2) n (0, wh, wc, wi, wj, ws, wt, wm) := by
  refine lpf_run (fun u => ∃ i : Nat, i ≤ N ∧ u.1 = iI i ∧ Inv u.2.1 u.2.2.1 u.2.2.2.1 u.2.2.2.2.1 u.2.2.2.2.2.2.2) (fun u => N - u.1.toNatClampNeg) _ ⟨0, by omega, rfl, h⟩ ?_
  rintro K ⟨a1, wh, wc, wi, wj, ws, wt, wm⟩ ⟨i, hi, e1, hI⟩ ih
  dsimp only at e1 hI ih ⊢
  subst e1
  unfold k_L_law_18
  have eN : Int32.ofNat N - 4 = iI ((N : Int) - 4) := by
    rw [show Int32.ofNat N = iI (N : Int) from iI_nI N]
    simp only [li_0, li_1, li_2, li_3, li_4, li_5, li_6, li_7, li_8, li_9, li_10, li_11, li_12, li_13, li_14, li_15, li_16, li_20, li_24, li_25, li_26, li_31, li_40, li_41, li_100, li_169, li_600, li_1000, li_10000, li_100000, lm_1, lm_2, lm_3, lm_4, lm_5, lm_6, lm_600, lm_10000, lm_12, iI_add, iI_sub, iI_mul, iI_neg]
  rw [eN, iI_lt (by constructor <;> omega) (by constructor <;> omega)]
  refine ⟨fun _ => rfl, fun hlt => ⟨inN (by omega) (by omega), ?_⟩⟩
  have hi4 : i + 4 ≤ N := by omega
  have nx : Nx K N xs i := fun wh wc wi wj ws wt wm hI' => by
    unfold k_L_law_570
    have e4 : iI (i : Int) + 4 = iI ((i + 4 : Nat) : Int) := by simp only [li_0, li_1, li_2, li_3, li_4, li_5, li_6, li_7, li_8, li_9, li_10, li_11, li_12, li_13, li_14, li_15, li_16, li_20, li_24, li_25, li_26, li_31, li_40, li_41, li_100, li_169, li_600, li_1000, li_10000, li_100000, lm_1, lm_2, lm_3, lm_4, lm_5, lm_6, lm_600, lm_10000, lm_12, iI_add, iI_sub, iI_mul, iI_neg]; rfl
    rw [e4]
    refine ih _ ⟨i + 4, hi4, rfl, hI'⟩ ?_
    dsimp only
    rw [tnN (by omega), tnN (by omega)]
    omega
  exact ⟨fun _ => b_size hN hi4 nx hI, fun _ => b_put hN hi4 nx hI, fun _ => b_off nx hI, fun _ => b_why hN hi4 nx hI, fun _ => b_corner hN hi4 nx hI, fun _ => b_face hN hi4 nx hI, fun _ => b_on hN hi4 nx hI, fun _ => b_ways nx hI, fun _ => b_greatest hN hi4 nx hI, fun _ => b_two nx hI, fun _ => b_view hN hi4 nx hI, fun _ => b_above hN hi4 nx hI, fun _ => b_apart hN hi4 nx hI, fun _ => b_image hN hi4 nx hI, fun _ => b_restore hN hi4 nx hI, fun _ => b_count hN hi4 nx hI, fun _ => nx _ _ _ _ _ _ _ hI⟩
theorem pure_ok {N : Nat} {xs : Nat → Int32} (hN : N ≤ 2048) : PureOK N xs := by
  have h8 : 4 ≤ (8 : Int) ∧ (8 : Int) ≤ 12 := by decide
  unfold PureOK
  refine s_begin (L := 8) h8 (fun wc hc => s_begin (L := 8) h8 (fun wi _ => s_begin (L := 8) h8 (fun wj _ => law_loop hN ?_)))
  refine ⟨⟨8, [], h8, trivial, hc, ?_, ?_, fun i hi => absurd hi (Nat.not_lt_zero i)⟩, false, false, rfl, rfl, rfl, fun h => absurd h (by decide), fun h => absurd h (by decide)⟩
  · unfold wm0; rw [z0N, up2_at, if_pos rfl]; rfl
  · unfold wm0; rw [z0N, up2_at, if_neg (by decide)]; rfl
