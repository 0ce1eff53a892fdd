theorem s_isPiece43 {L : Int} {bs : List Bx} (hL : 4 ≤ L ∧ L ≤ 12) (hv : Val L bs) {w : Wd} (hG : GR L bs w (2 * bs.length + 2)) {f g : Int} (hf : -100 ≤ f ∧ f ≤ 100) (hg : -100 ≤ g ∧ g ≤ 100) {al : Nat} (hal : al < 2) {Q : Int32 → Wd → Prop} (q1 : (if al = 0 then 0 < spN L bs (2 * bs.length + 2) f g else 0 < sqN L bs (2 * bs.length + 2) f g) → Q 1 w) (q0 : ¬ (if al = 0 then 0 < spN L bs (2 * bs.length + 2) f g else 0 < sqN L bs (2 * bs.length + 2) f g) → Q 0 w) : k_X4_isPiece_43 Q (iI al) (iI f) (iI g) w := by
  have hlen := Val_len hv
  unfold k_X4_isPiece_43
  have out : ¬ (0 ≤ f ∧ f ≤ 12) ∨ ¬ (0 ≤ g ∧ g ≤ 12) → Q 0 w := fun h => by
    apply q0
    obtain ⟨-, o2, o3⟩ := onN_out (L := L) (by omega) hv (m := 2 * bs.length + 2) (p := f) (q := g) (by omega)
    split <;> omega
  refine s_in (l := 0) (h := 12) (by constructor <;> omega) (by constructor <;> omega) (by constructor <;> omega) (fun h1 h2 => ⟨fun h => absurd h (by decide), fun _ => ?_⟩) (fun h => ⟨fun _ => out (Or.inl h), fun h => absurd rfl h⟩)
  refine s_in (l := 0) (h := 12) (by constructor <;> omega) (by constructor <;> omega) (by constructor <;> omega) (fun h3 h4 => ⟨fun h => absurd h (by decide), fun _ => ?_⟩) (fun h => ⟨fun _ => out (Or.inr h), fun h => absurd rfl h⟩)
  obtain ⟨p, rfl⟩ := nat_of h1
  obtain ⟨q, rfl⟩ := nat_of h3
  obtain ⟨g1, g2, g3⟩ := hG p (by omega) q (by omega)
  have b1 : spN L bs (2 * bs.length + 2) p q ≤ 2 * bs.length + 2 := fb_ct_le _ _
  have b2 : sqN L bs (2 * bs.length + 2) p q ≤ 2 * bs.length + 2 := fb_ct_le _ _
  rcases (show al = 0 ∨ al = 1 by omega) with rfl | rfl
  · simp only [if_true] at q1 q0
    refine ⟨fun h => absurd rfl h, fun _ => s_at ?_⟩
    rw [show (13 * (q : Int) + (p : Int)) = ((13 * q + p : Nat) : Int) by omega, tnN (by omega), g1, li_0, iI_le (by constructor <;> omega) (by constructor <;> omega)]
    exact ⟨inN (by omega) (by decide), fun h => q0 (by omega), fun h => q1 (by omega)⟩
  · simp only [if_neg (show ¬ (1 : Nat) = 0 by decide)] at q1 q0
    refine ⟨fun _ => s_at ?_, fun h => absurd h (by decide)⟩
    rw [show (13 * (q : Int) + (p : Int)) = ((13 * q + p : Nat) : Int) by omega, tnN (by omega), g2, li_0, iI_le (by constructor <;> omega) (by constructor <;> omega)]
    exact ⟨inN (by omega) (by decide), fun h => q0 (by omega), fun h => q1 (by omega)⟩
theorem s_isPiece {L : Int} {bs : List Bx} (hL : 4 ≤ L ∧ L ≤ 12) (hv : Val L bs) {w : Wd} (hG : GR L bs w (2 * bs.length + 2)) {p q sd : Int} (hp : -50 ≤ p ∧ p ≤ 50) (hq' : -50 ≤ q ∧ q ≤ 50) (hsd : sd = 1 ∨ sd = -1) {al : Nat} (hal : al < 2) {Q : Int32 → Wd → Prop}
    (q1 : (if al = 0 then 0 < spN L bs (2 * bs.length + 2) (if 0 < sd then p else p - 1) q else 0 < sqN L bs (2 * bs.length + 2) p (if 0 < sd then q else q - 1)) → Q 1 w) (q0 : ¬ (if al = 0 then 0 < spN L bs (2 * bs.length + 2) (if 0 < sd then p else p - 1) q else 0 < sqN L bs (2 * bs.length + 2) p (if 0 < sd then q else q - 1)) → Q 0 w) : k_X4_isPiece (iI p) (iI q) (iI sd) (iI al) w Q := by
  unfold k_X4_isPiece
  have e1 : iI p - 1 = iI (p - 1) := by simp only [li_0, li_1, li_2, li_3, li_4, li_5, li_6, li_7, li_8, li_9, li_10, li_11, li_12, li_13, li_14, li_15, li_16, li_20, li_24, li_25, li_26, li_31, li_40, li_41, li_100, li_169, li_600, li_1000, li_10000, li_100000, lm_1, lm_2, lm_3, lm_4, lm_5, lm_6, lm_600, lm_10000, lm_12, iI_add, iI_sub, iI_mul, iI_neg]
  have e2 : iI q - 1 = iI (q - 1) := by simp only [li_0, li_1, li_2, li_3, li_4, li_5, li_6, li_7, li_8, li_9, li_10, li_11, li_12, li_13, li_14, li_15, li_16, li_20, li_24, li_25, li_26, li_31, li_40, li_41, li_100, li_169, li_600, li_1000, li_10000, li_100000, lm_1, lm_2, lm_3, lm_4, lm_5, lm_6, lm_600, lm_10000, lm_12, iI_add, iI_sub, iI_mul, iI_neg]
  rcases (show al = 0 ∨ al = 1 by omega) with rfl | rfl
  · simp only [if_true] at q1 q0
    refine ⟨fun h => absurd rfl h, fun _ => ?_⟩
    rcases hsd with rfl | rfl
    · simp only [if_pos (show (0 : Int) < 1 by decide)] at q1 q0
      refine ⟨fun _ => ?_, fun h => absurd ?_ h⟩
      · unfold k_X4_isPiece_20
        refine ⟨fun _ => ?_, fun h => absurd h (by decide)⟩
        exact s_isPiece43 hL hv hG (by omega) (by omega) (al := 0) (by decide) (by simpa using q1) (by simpa using q0)
      · decide
    · simp only [if_neg (show ¬ (0 : Int) < -1 by decide)] at q1 q0
      refine ⟨fun h => absurd h (by decide), fun _ => ?_⟩
      rw [e1]
      unfold k_X4_isPiece_20
      refine ⟨fun _ => ?_, fun h => absurd h (by decide)⟩
      exact s_isPiece43 hL hv hG (by omega) (by omega) (al := 0) (by decide) (by simpa using q1) (by simpa using q0)
  · simp only [if_neg (show ¬ (1 : Nat) = 0 by decide)] at q1 q0
    refine ⟨fun _ => ?_, fun h => absurd h (by decide)⟩
    unfold k_X4_isPiece_20
    refine ⟨fun h => absurd rfl h, fun _ => ?_⟩
    rcases hsd with rfl | rfl
    · simp only [if_pos (show (0 : Int) < 1 by decide)] at q1 q0
      refine ⟨fun _ => ?_, fun h => absurd ?_ h⟩
      · exact s_isPiece43 hL hv hG (by omega) (by omega) (al := 1) (by decide) (by simpa using q1) (by simpa using q0)
      · decide
    · simp only [if_neg (show ¬ (0 : Int) < -1 by decide)] at q1 q0
      refine ⟨fun h => absurd h (by decide), fun _ => ?_⟩
      rw [e2]
      exact s_isPiece43 hL hv hG (by omega) (by omega) (al := 1) (by decide) (by simpa using q1) (by simpa using q0)
theorem pcB_12 {L : Int} (hL : 4 ≤ L ∧ L ≤ 12) {bs : List Bx} (hv : Val L bs) (k : Nat) {al : Nat} (hal : al < 2) : pcB L bs k al 12 = false := by
  have t0 := ctri (L := L) (by omega) hv k
  unfold tri at t0
  unfold pcB
  rcases (show al = 0 ∨ al = 1 by omega) with rfl | rfl
  · rw [if_pos rfl]
    refine decide_eq_false (fun h => ?_)
    have := sp_end (by omega) hv h
    unfold tri at this
    split at this <;> omega
  · rw [if_neg (by decide)]
    refine decide_eq_false (fun h => ?_)
    have := sq_end (by omega) hv h
    unfold tri at this
    split at this <;> omega
theorem s_reachM {L : Int} {bs : List Bx} (hL : 4 ≤ L ∧ L ≤ 12) (hv : Val L bs) {w : Wd} (hc : ML L bs w) {k al : Nat} (hk : k < 5 * bs.length + 1) (hal : al < 2) {Q : Int32 → Wd → Prop} (hq : Q (iI (rchK L bs k al)) w) : k_X4_reach (iI k) (iI al) w Q := by
  have hlen := Val_len hv
  obtain ⟨c7, c12, cf, ck, cg⟩ := hc
  obtain ⟨k8, k9, k10, k11⟩ := ck k hk
  have hin := inN (show k < 41 by omega) (by decide)
  have t0 := ctri (L := L) (by omega) hv k
  unfold tri at t0
  have hu := cu_pm bs k
  have hw := cv_pm bs k
  have h12 := pcB_12 hL hv k hal
  obtain ⟨sd, hsd⟩ : ∃ sd : Int, sd = if al = 0 then cu bs k else cv bs k := ⟨_, rfl⟩
  have hs1 : sd = 1 ∨ sd = -1 := by rw [hsd]; split <;> assumption
  have main : k_X4_reach_19 Q (iI k) (iI al) (iI sd) w := by
    unfold k_X4_reach_19
    refine lpf_run (fun u => ∃ r : Nat, r ≤ 12 ∧ u.1 = iI k ∧ u.2.1 = iI al ∧ u.2.2.1 = iI sd ∧ u.2.2.2.1 = iI r ∧ u.2.2.2.2 = w ∧ ∀ t, t < r → pcB L bs k al t = true) (fun u => 13 - u.2.2.2.1.toNatClampNeg) _ ⟨0, by omega, rfl, rfl, rfl, rfl, rfl, fun t h => absurd h (by omega)⟩ ?_
    rintro K ⟨a1, a2, a3, a4, w1⟩ ⟨r, hr, e1, e2, e3, e4, e5, hp⟩ ih
    dsimp only at e1 e2 e3 e4 e5 ih ⊢
    subst e1; subst e2; subst e3; subst e4; subst e5
    have ee : iI (r : Int) + 1 = iI ((r + 1 : Nat) : Int) := by simp only [li_0, li_1, li_2, li_3, li_4, li_5, li_6, li_7, li_8, li_9, li_10, li_11, li_12, li_13, li_14, li_15, li_16, li_20, li_24, li_25, li_26, li_31, li_40, li_41, li_100, li_169, li_600, li_1000, li_10000, li_100000, lm_1, lm_2, lm_3, lm_4, lm_5, lm_6, lm_600, lm_10000, lm_12, iI_add, iI_sub, iI_mul, iI_neg]; rfl
    have done : pcB L bs k al r = false → Q (iI r) w1 := fun h => by
      unfold rchK at hq
      rw [rch_eq hr hp (Or.inr h)] at hq
      exact hq
    have more : pcB L bs k al r = true → K (iI k, iI al, iI sd, iI r + 1, w1) := fun h => by
      have hlt : r < 12 := by
        rcases Nat.lt_or_ge r 12 with h1 | h1
        · exact h1
        · rw [show r = 12 by omega, h12] at h; exact absurd h (by decide)
      rw [ee]
      refine ih _ ⟨r + 1, by omega, rfl, rfl, rfl, rfl, rfl, fun t ht => ?_⟩ ?_
      · rcases Nat.lt_or_ge t r with h4 | h4
        · exact hp t h4
        · rw [show t = r by omega]; exact h
      · dsimp only
        rw [tnN (by omega), tnN (by omega)]
        omega
    unfold k_X4_reach_23
    rcases (show al = 0 ∨ al = 1 by omega) with rfl | rfl
    · rw [if_pos rfl] at hsd
      refine ⟨hin, fun h => absurd rfl h, fun _ => ?_⟩
      unfold k_X4_reach_42
      refine ⟨hin, fun _ => ?_, fun h => absurd h (by decide)⟩
      unfold k_X4_reach_62
      rw [tnN (by omega), k8, k9, li_0, iI_mul, iI_add, iI_add]
      refine s_isPiece hL hv cg (by rcases hs1 with h | h <;> rw [h] <;> omega) (by omega) hs1 (al := 0) (by decide) (fun h => ⟨fun h => absurd h (by decide), fun _ => more ?_⟩) (fun h => ⟨fun _ => done ?_, fun h => absurd rfl h⟩)
      · rw [if_pos rfl] at h
        unfold pcB
        rw [if_pos rfl]
        refine decide_eq_true ?_
        rw [hsd] at h
        rcases hu with hu | hu <;> simp only [hu] at h ⊢ <;> simp at h ⊢ <;> (try rw [show cp bs k - 1 - (r : Int) = cp bs k + -(r : Int) - 1 by omega]) <;> exact h
      · rw [if_pos rfl] at h
        unfold pcB
        rw [if_pos rfl]
        refine decide_eq_false (fun h2 => h ?_)
        rw [hsd]
        rcases hu with hu | hu <;> simp only [hu] at h2 ⊢ <;> simp at h2 ⊢ <;> (try rw [show cp bs k - 1 - (r : Int) = cp bs k + -(r : Int) - 1 by omega] at h2) <;> exact h2
    · rw [if_neg (by decide)] at hsd
      refine ⟨hin, fun _ => ?_, fun h => absurd h (by decide)⟩
      unfold k_X4_reach_42
      refine ⟨hin, fun h => absurd rfl h, fun _ => ?_⟩
      unfold k_X4_reach_62
      rw [tnN (by omega), k8, k9, li_0, iI_mul, iI_add, iI_add]
      refine s_isPiece hL hv cg (by omega) (by rcases hs1 with h | h <;> rw [h] <;> omega) hs1 (al := 1) (by decide) (fun h => ⟨fun h => absurd h (by decide), fun _ => more ?_⟩) (fun h => ⟨fun _ => done ?_, fun h => absurd rfl h⟩)
      · rw [if_neg (by decide)] at h
        unfold pcB
        rw [if_neg (by decide)]
        refine decide_eq_true ?_
        rw [hsd] at h
        rcases hw with hu | hu <;> simp only [hu] at h ⊢ <;> simp at h ⊢ <;> (try rw [show cq bs k - 1 - (r : Int) = cq bs k + -(r : Int) - 1 by omega]) <;> exact h
      · rw [if_neg (by decide)] at h
        unfold pcB
        rw [if_neg (by decide)]
        refine decide_eq_false (fun h2 => h ?_)
        rw [hsd]
        rcases hw with hu | hu <;> simp only [hu] at h2 ⊢ <;> simp at h2 ⊢ <;> (try rw [show cq bs k - 1 - (r : Int) = cq bs k + -(r : Int) - 1 by omega] at h2) <;> exact h2
  unfold k_X4_reach
  rw [tnN (by omega), k10, k11]
  rcases (show al = 0 ∨ al = 1 by omega) with rfl | rfl
  · rw [if_pos rfl] at hsd
    rw [hsd] at main
    exact ⟨fun h => absurd rfl h, fun _ => ⟨hin, main⟩⟩
  · rw [if_neg (by decide)] at hsd
    rw [hsd] at main
    exact ⟨fun _ => ⟨hin, main⟩, fun h => absurd h (by decide)⟩
theorem s_isFree {L : Int} {bs : List Bx} (hlen : bs.length ≤ 6) {w : Wd} (hG : GR L bs w (2 * bs.length + 2)) {x y : Int} (hx : 0 ≤ x ∧ x ≤ 12) (hy : 0 ≤ y ∧ y ≤ 12) {Q : Int32 → Wd → Prop} (q1 : ¬ 0 < onN L bs (2 * bs.length + 2) x y → Q 1 w) (q0 : 0 < onN L bs (2 * bs.length + 2) x y → Q 0 w) : k_X4_isFree (iI x) (iI y) w Q := by
  unfold k_X4_isFree
  obtain ⟨p, rfl⟩ := nat_of hx.1
  obtain ⟨q, rfl⟩ := nat_of hy.1
  obtain ⟨g1, g2, g3⟩ := hG p (by omega) q (by omega)
  have b1 : onN L bs (2 * bs.length + 2) p q ≤ 2 * bs.length + 2 := fb_ct_le _ _
  refine s_at ?_
  rw [show (13 * (q : Int) + (p : Int)) = ((13 * q + p : Nat) : Int) by omega, tnN (by omega), g3, li_0, iI_eq (by constructor <;> omega) (by constructor <;> omega)]
  exact ⟨inN (by omega) (by decide), fun h => q0 (by omega), fun h => q1 (by omega)⟩
theorem hitQ_succ (L : Int) (bs : List Bx) (x q v : Int) (n : Nat) : hitQ L bs x q v (n + 1) = hitQ L bs x q v n + if 0 < onN L bs (2 * bs.length + 2) x (q + v * ((n : Int) + 1)) then 1 else 0 := by
  unfold hitQ
  rw [fb_ct_succ]
  simp
theorem hitP_succ (L : Int) (bs : List Bx) (p u y : Int) (n : Nat) : hitP L bs p u y (n + 1) = hitP L bs p u y n + if 0 < onN L bs (2 * bs.length + 2) (p + u * ((n : Int) + 1)) y then 1 else 0 := by
  unfold hitP
  rw [fb_ct_succ]
  simp
theorem s_hits {L : Int} {bs : List Bx} (hL : 4 ≤ L ∧ L ≤ 12) (hv : Val L bs) {w : Wd} (hc : ML L bs w) {k a b : Nat} (hk : k < 5 * bs.length + 1) (ha : 1 ≤ a ∧ a ≤ 12) (hb : 1 ≤ b ∧ b ≤ 12) (t1 : tri L (cp bs k + cu bs k * a) (cq bs k)) (t2 : tri L (cp bs k) (cq bs k + cv bs k * b)) {Q : Int32 → Wd → Prop}
    (q1 : (0 < hitQ L bs (cp bs k + cu bs k * a) (cq bs k) (cv bs k) b ∨ 0 < hitP L bs (cp bs k) (cu bs k) (cq bs k + cv bs k * b) a) → Q 1 w) (q0 : ¬ (0 < hitQ L bs (cp bs k + cu bs k * a) (cq bs k) (cv bs k) b ∨ 0 < hitP L bs (cp bs k) (cu bs k) (cq bs k + cv bs k * b) a) → Q 0 w) : k_X4_hits (iI k) (iI a) (iI b) w Q := by
  have hlen := Val_len hv
  obtain ⟨c7, c12, cf, ck, cg⟩ := hc
  obtain ⟨k8, k9, k10, k11⟩ := ck k hk
  have hin := inN (show k < 41 by omega) (by decide)
  have t0 := ctri (L := L) (by omega) hv k
  unfold tri at t0 t1 t2
  have hu := cu_pm bs k
  have hw := cv_pm bs k
  unfold k_X4_hits
  refine ⟨hin, hin, hin, hin, ?_⟩
  rw [tnN (by omega), k8, k9, k10, k11, iI_mul, iI_mul, iI_add, iI_add]
  have XX : ∃ X : Int, X = cp bs k + cu bs k * a := ⟨_, rfl⟩
  obtain ⟨X, hX⟩ := XX
  have YY : ∃ Y : Int, Y = cq bs k + cv bs k * b := ⟨_, rfl⟩
  obtain ⟨Y, hY⟩ := YY
  rw [← hX, ← hY]
  rw [← hX] at t1 q1 q0
  rw [← hY] at t2 q1 q0
  refine lpf_run (fun u => ∃ t : Nat, 1 ≤ t ∧ t ≤ b + 1 ∧ u.1 = iI k ∧ u.2.1 = iI a ∧ u.2.2.1 = iI b ∧ u.2.2.2.1 = iI (cu bs k) ∧ u.2.2.2.2.1 = iI (cv bs k) ∧ u.2.2.2.2.2.1 = iI X ∧ u.2.2.2.2.2.2.1 = iI Y ∧ u.2.2.2.2.2.2.2.1 = (if 0 < hitQ L bs X (cq bs k) (cv bs k) (t - 1) then 0 else 1) ∧ u.2.2.2.2.2.2.2.2.1 = iI t ∧ u.2.2.2.2.2.2.2.2.2 = w) (fun u => b + 1 - u.2.2.2.2.2.2.2.2.1.toNatClampNeg) _ ⟨1, by omega, by omega, rfl, rfl, rfl, rfl, rfl, rfl, rfl, by simp [hitQ, fb_ct], rfl, rfl⟩ ?_
  rintro K ⟨a1, a2, a3, a4, a5, a6, a7, a8, a9, w1⟩ ⟨t, ht1, ht2, e1, e2, e3, e4, e5, e6, e7, e8, e9, e10⟩ ih
  dsimp only at e1 e2 e3 e4 e5 e6 e7 e8 e9 e10 ih ⊢
  subst e1; subst e2; subst e3; subst e4; subst e5; subst e6; subst e7; subst e9; subst e10
  have ee : iI (t : Int) + 1 = iI ((t + 1 : Nat) : Int) := by simp only [li_0, li_1, li_2, li_3, li_4, li_5, li_6, li_7, li_8, li_9, li_10, li_11, li_12, li_13, li_14, li_15, li_16, li_20, li_24, li_25, li_26, li_31, li_40, li_41, li_100, li_169, li_600, li_1000, li_10000, li_100000, lm_1, lm_2, lm_3, lm_4, lm_5, lm_6, lm_600, lm_10000, lm_12, iI_add, iI_sub, iI_mul, iI_neg]; rfl
  unfold k_X4_hits_48
  rw [iI_lt (by constructor <;> omega) (by constructor <;> omega)]
  refine ⟨fun h => ?_, fun h => ?_⟩
  · have : t = b + 1 := by omega
    subst this
    rw [show b + 1 - 1 = b by omega] at e8
    clear ih
    refine lpf_run (fun u => ∃ t : Nat, 1 ≤ t ∧ t ≤ a + 1 ∧ u.1 = iI k ∧ u.2.1 = iI a ∧ u.2.2.1 = iI (cu bs k) ∧ u.2.2.2.1 = iI Y ∧ u.2.2.2.2.1 = (if 0 < hitQ L bs X (cq bs k) (cv bs k) b ∨ 0 < hitP L bs (cp bs k) (cu bs k) Y (t - 1) then 0 else 1) ∧ u.2.2.2.2.2.1 = iI t ∧ u.2.2.2.2.2.2 = w1) (fun u => a + 1 - u.2.2.2.2.2.1.toNatClampNeg) _ ⟨1, by omega, by omega, rfl, rfl, rfl, rfl, ?_, rfl, rfl⟩ ?_
    · dsimp only
      rw [e8]
      simp [hitP, fb_ct]
    rintro K ⟨b1, b2, b3, b4, b5, b6, w2⟩ ⟨s, hs1, hs2, f1, f2, f3, f4, f5, f6, f7⟩ ih
    dsimp only at f1 f2 f3 f4 f5 f6 f7 ih ⊢
    subst f1; subst f2; subst f3; subst f4; subst f6; subst f7
    have ee : iI (s : Int) + 1 = iI ((s + 1 : Nat) : Int) := by simp only [li_0, li_1, li_2, li_3, li_4, li_5, li_6, li_7, li_8, li_9, li_10, li_11, li_12, li_13, li_14, li_15, li_16, li_20, li_24, li_25, li_26, li_31, li_40, li_41, li_100, li_169, li_600, li_1000, li_10000, li_100000, lm_1, lm_2, lm_3, lm_4, lm_5, lm_6, lm_600, lm_10000, lm_12, iI_add, iI_sub, iI_mul, iI_neg]; rfl
    unfold k_X4_hits_96
    rw [iI_lt (by constructor <;> omega) (by constructor <;> omega)]
    refine ⟨fun h => ?_, fun h => ?_⟩
    · have : s = a + 1 := by omega
      subst this
      rw [show a + 1 - 1 = a by omega] at f5
      by_cases hh : 0 < hitQ L bs X (cq bs k) (cv bs k) b ∨ 0 < hitP L bs (cp bs k) (cu bs k) Y a
      · rw [if_pos hh] at f5
        subst f5
        exact ⟨fun h => absurd rfl h, fun _ => q1 hh⟩
      · rw [if_neg hh] at f5
        subst f5
        exact ⟨fun _ => q0 hh, fun h => absurd h (by decide)⟩
    · have hsucc := hitP_succ L bs (cp bs k) (cu bs k) Y (s - 1)
      rw [show s - 1 + 1 = s by omega, show ((s - 1 : Nat) : Int) + 1 = s by omega] at hsucc
      have next : ∀ v : Int32, v = (if 0 < hitQ L bs X (cq bs k) (cv bs k) b ∨ 0 < hitP L bs (cp bs k) (cu bs k) Y s then 0 else 1) → K (iI k, iI a, iI (cu bs k), iI Y, v, iI s + 1, w2) := fun v hv' => by
        rw [ee]
        refine ih _ ⟨s + 1, by omega, by omega, rfl, rfl, rfl, rfl, ?_, rfl, rfl⟩ ?_
        · dsimp only
          rw [hv', show s + 1 - 1 = s by omega]
        · dsimp only
          rw [tnN (by omega), tnN (by omega)]
          omega
      by_cases hh : 0 < hitQ L bs X (cq bs k) (cv bs k) b ∨ 0 < hitP L bs (cp bs k) (cu bs k) Y (s - 1)
      · rw [if_pos hh] at f5
        subst f5
        refine ⟨fun _ => ?_, fun h => absurd rfl h⟩
        unfold k_X4_hits_132 k_X4_hits_133
        exact next 0 (by rw [if_pos (by omega)])
      · rw [if_neg hh] at f5
        subst f5
        refine ⟨fun h => absurd h (by decide), fun _ => ⟨hin, ?_⟩⟩
        rw [tnN (by omega), k8, iI_mul, iI_add]
        refine s_isFree hlen cg (by rcases hu with hu | hu <;> rw [hu] at hX ⊢ <;> omega) (by omega) (fun h2 => ⟨fun h => absurd h (by decide), fun _ => ?_⟩) (fun h2 => ⟨fun _ => ?_, fun h => absurd rfl h⟩)
        · unfold k_X4_hits_133
          rw [if_neg h2] at hsucc
          exact next 1 (by rw [if_neg (by omega)])
        · unfold k_X4_hits_132 k_X4_hits_133
          rw [if_pos h2] at hsucc
          exact next 0 (by rw [if_pos (by omega)])
  · have hsucc := hitQ_succ L bs X (cq bs k) (cv bs k) (t - 1)
    rw [show t - 1 + 1 = t by omega, show ((t - 1 : Nat) : Int) + 1 = t by omega] at hsucc
    have next : ∀ v : Int32, v = (if 0 < hitQ L bs X (cq bs k) (cv bs k) t then 0 else 1) → K (iI k, iI a, iI b, iI (cu bs k), iI (cv bs k), iI X, iI Y, v, iI t + 1, w1) := fun v hv' => by
      rw [ee]
      refine ih _ ⟨t + 1, by omega, by omega, rfl, rfl, rfl, rfl, rfl, rfl, rfl, ?_, rfl, rfl⟩ ?_
      · dsimp only
        rw [hv', show t + 1 - 1 = t by omega]
      · dsimp only
        rw [tnN (by omega), tnN (by omega)]
        omega
    by_cases hh : 0 < hitQ L bs X (cq bs k) (cv bs k) (t - 1)
    · rw [if_pos hh] at e8
      subst e8
      refine ⟨fun _ => ?_, fun h => absurd rfl h⟩
      unfold k_X4_hits_84 k_X4_hits_85
      exact next 0 (by rw [if_pos (by omega)])
    · rw [if_neg hh] at e8
      subst e8
      refine ⟨fun h => absurd h (by decide), fun _ => ⟨hin, ?_⟩⟩
      rw [tnN (by omega), k9, iI_mul, iI_add]
      refine s_isFree hlen cg (by omega) (by rcases hw with hu | hu <;> rw [hu] at hY ⊢ <;> omega) (fun h2 => ⟨fun h => absurd h (by decide), fun _ => ?_⟩) (fun h2 => ⟨fun _ => ?_, fun h => absurd rfl h⟩)
      · unfold k_X4_hits_85
        rw [if_neg h2] at hsucc
        exact next 1 (by rw [if_neg (by omega)])
      · unfold k_X4_hits_84 k_X4_hits_85
        rw [if_pos h2] at hsucc
        exact next 0 (by rw [if_pos (by omega)])
theorem s_whyNot {L : Int} {bs : List Bx} (hL : 4 ≤ L ∧ L ≤ 12) (hv : Val L bs) {w : Wd} (hc : ML L bs w) (h0 : w 0 0 = iI L) {k a b : Nat} (hk : k < 5 * bs.length + 1) (ha : 1 ≤ a ∧ a ≤ 12) (hb : 1 ≤ b ∧ b ≤ 12) {Q : Int32 → Wd → Prop} (hq : Q (iI (whyN L bs k a b)) w) : k_X4_whyNot (iI k) (iI a) (iI b) w Q := by
  have hlen := Val_len hv
  have l0 := rch_le (pcB L bs k 0)
  have l1 := rch_le (pcB L bs k 1)
  have hc' := hc
  obtain ⟨c7, c12, cf, ck, cg⟩ := hc'
  obtain ⟨k8, k9, k10, k11⟩ := ck k hk
  have hin := inN (show k < 41 by omega) (by decide)
  obtain ⟨r1, r2⟩ := reach_tri hL hv k
  have t0 := ctri (L := L) (by omega) hv k
  unfold tri at t0
  unfold k_X4_whyNot
  unfold whyN rchK at hq
  unfold rchK at r1 r2
  refine s_reachM hL hv hc hk (al := 0) (by decide) ?_
  unfold rchK
  rw [iI_lt (by constructor <;> omega) (by constructor <;> omega)]
  refine ⟨fun h => ?_, fun h => ?_⟩
  · rw [if_pos (Or.inl h)] at hq
    exact hq
  · refine s_reachM hL hv hc hk (al := 1) (by decide) ?_
    unfold rchK
    rw [iI_le (by constructor <;> omega) (by constructor <;> omega)]
    refine ⟨fun h2 => ?_, fun h2 => ?_⟩
    · rw [if_neg (by omega)] at hq
      refine ⟨hin, hin, hin, hin, inN (n := 0) (by decide) (by decide), ?_⟩
      have t1 := r1 a ha.1 (by omega)
      have t2 := r2 b hb.1 (by omega)
      have t1' := t1
      have t2' := t2
      unfold tri at t1' t2'
      have z0 : ((0 : Int32)).toNatClampNeg = 0 := rfl
      rw [tnN (by omega), z0, k8, k9, k10, k11, h0, iI_mul, iI_mul, iI_add, iI_add, iI_add, iI_le (by constructor <;> omega) (by constructor <;> omega)]
      unfold whyW at hq
      refine ⟨fun h3 => ?_, fun h3 => ?_⟩
      · rw [if_neg (by omega), Int.toNat_natCast, Int.toNat_natCast] at hq
        refine s_hits hL hv hc hk ha hb t1 t2 (fun h4 => ⟨fun h => absurd h (by decide), fun _ => ?_⟩) (fun h4 => ⟨fun _ => ?_, fun h => absurd rfl h⟩)
        · rw [if_pos h4] at hq; exact hq
        · rw [if_neg h4] at hq; exact hq
      · rw [if_pos (by omega)] at hq
        exact hq
    · rw [if_pos (Or.inr (by omega))] at hq
      exact hq
