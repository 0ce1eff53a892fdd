theorem bcnt_ok {x : Int32} {P : Nat → Bool} (h : ∀ i, i < 32 → bt x i = P i) (hP : ∀ i, 13 ≤ i → P i = false) : bcnt x = iI (fb_ct P 13) := by
  obtain ⟨n, hn⟩ : ∃ n : Nat, n = x.toBitVec.toNat := ⟨_, rfl⟩
  have hlt : n < 2 ^ 32 := by rw [hn]; exact x.toBitVec.isLt
  have hb : ∀ i, n.testBit i = bt x i := fun i => by rw [hn]; rfl
  have hn13 : n < 2 ^ 13 := by
    apply Nat.lt_pow_two_of_testBit
    intro i hi
    rw [hb]
    rcases Nat.lt_or_ge i 32 with h1 | h1
    · rw [h i h1, hP i hi]
    · exact b_big h1
  have hx : x = nI n := by
    refine b_ext (fun i hi => ?_)
    rw [← hb]
    show n.testBit i = (nI n).toBitVec.toNat.testBit i
    rw [pk_tn (by omega)]
  have h8 : n < 8192 := hn13
  have := bc_all ⟨n / 64, by omega⟩ ⟨n % 64, by omega⟩
  dsimp only at this
  rw [show 64 * (n / 64) + n % 64 = n by omega] at this
  rw [hx, this, iI_nI]
  congr 2
  exact fb_ct_cong (fun k hk => by rw [hb, h k (by omega)])
theorem s_placesOnFaces {L : Int} {bs : List Bx} {w : Wd} (hL : 4 ≤ L ∧ L ≤ 12) (hv : Val L bs) (hc : CR L bs w) {Q : Int32 → Wd → Prop} (hq : Q (iI (fb_ct (plB L bs) 169)) w) : k_X0_placesOnFaces w Q := by
  unfold k_X0_placesOnFaces
  refine lpf_run (fun u => ∃ m : Nat, m ≤ 13 ∧ u.1 = iI (fb_ct (plB L bs) (13 * m)) ∧ u.2.1 = iI m ∧ u.2.2 = w) (fun u => 13 - u.2.1.toNatClampNeg) _ ⟨0, by omega, rfl, rfl, rfl⟩ ?_
  rintro K ⟨a1, a2, w1⟩ ⟨m, hm, e1, e2, e3⟩ ih
  dsimp only at e1 e2 e3 ih ⊢
  subst e1; subst e2; subst e3
  have ee : iI (m : Int) + 1 = iI ((m + 1 : Nat) : Int) := by simp only [li_0, li_1, li_2, li_3, li_4, li_5, li_6, li_7, li_8, li_9, li_10, li_11, li_12, li_13, li_14, li_15, li_16, li_20, li_24, li_25, li_26, li_31, li_40, li_41, li_100, li_169, li_600, li_1000, li_10000, li_100000, lm_1, lm_2, lm_3, lm_4, lm_5, lm_6, lm_600, lm_10000, lm_12, iI_add, iI_sub, iI_mul, iI_neg]; rfl
  unfold k_X0_placesOnFaces_4
  rw [li_13, iI_le (by constructor <;> omega) (by constructor <;> omega)]
  refine ⟨fun h => ?_, fun h => ?_⟩
  · have : m = 13 := by omega
    subst this
    exact hq
  · refine s_bitsOf (al := 0) (by decide) (show m < 13 by omega) ?_
    rw [upr_self]
    unfold k_J6_bitCount_0f7a4
    have hbc := bcnt_ok (x := w1 14 (ro 0 m)) (P := fun i => decide (0 < onN L bs (2 * bs.length + 2) (i : Int) (m : Int))) (fun i hi => (hc.2.2.2.2.2 m (by omega) i hi).2.2.1) (fun i hi => decide_eq_false (by
      have := (onN_out (L := L) (by omega) hv (m := 2 * bs.length + 2) (p := (i : Int)) (q := (m : Int)) (by omega)).1
      omega))
    unfold bcnt at hbc
    rw [hbc]
    dsimp only
    rw [iI_add, ee]
    have hs : fb_ct (plB L bs) (13 * (m + 1)) = fb_ct (plB L bs) (13 * m) + fb_ct (fun i => decide (0 < onN L bs (2 * bs.length + 2) (i : Int) (m : Int))) 13 := by
      rw [show 13 * (m + 1) = 13 * m + 13 by omega, fb_ct_split]
      congr 1
      refine fb_ct_cong (fun k hk => ?_)
      unfold plB
      rw [show (13 * m + k) % 13 = k by omega, show (13 * m + k) / 13 = m by omega]
    refine ih _ ⟨m + 1, by omega, ?_, rfl, rfl⟩ ?_
    · dsimp only
      rw [hs]
      congr 1
    · dsimp only
      rw [tnN (by omega), tnN (by omega)]
      omega
