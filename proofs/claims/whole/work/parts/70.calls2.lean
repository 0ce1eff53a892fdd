/-! why -/
def whyA (L : Int) (bs : List Bx) (k a b : Int) : Int32 := if 0 ≤ k ∧ k < 5 * bs.length + 1 then (if 1 ≤ a ∧ a ≤ 12 then (if 1 ≤ b ∧ b ≤ 12 then iI (whyN L bs k.toNat a b) else -2) else -2) else -1
theorem a_why {L k a b : Int} {bs : List Bx} {wh wc : Wd} (hL : 4 ≤ L ∧ L ≤ 12) (hv : Val L bs) (hc : CR L bs wc) (hk : ir k) (ha : ir a) (hb : ir b) {Q : Int32 → Wd → Wd → Prop} (hq : Q (whyA L bs k a b) wh wc) : k_X3_why (iI k) (iI a) (iI b) wh wc Q := by
  have hlen := Val_len hv
  unfold whyA at hq
  unfold k_X3_why
  refine s_hasCorner hlen hc.2.1 hk (fun h1 h2 => ⟨fun _ => ?_, fun h => absurd h (by decide)⟩) (fun h1 => ⟨fun h => absurd rfl h, fun _ => ?_⟩)
  · have hh : 0 ≤ k ∧ k < 5 * bs.length + 1 := ⟨h1, h2⟩
    rw [if_pos hh] at hq
    refine s_areSides ha hb (fun h3 h4 => ⟨fun _ => ?_, fun h => absurd h (by decide)⟩) (fun h3 => ⟨fun h => absurd rfl h, fun _ => ?_⟩)
    · rw [if_pos h3, if_pos h4] at hq
      obtain ⟨k', rfl⟩ : ∃ k' : Nat, k = k' := ⟨k.toNat, by omega⟩
      obtain ⟨a', rfl⟩ : ∃ a' : Nat, a = a' := ⟨a.toNat, by omega⟩
      obtain ⟨b', rfl⟩ : ∃ b' : Nat, b = b' := ⟨b.toNat, by omega⟩
      rw [Int.toNat_natCast] at hq
      exact s_reasonAgainst hL hv hc (by omega) (by omega) (by omega) hq
    · have e : ∀ (p : Int32), (if 1 ≤ a ∧ a ≤ 12 then (if 1 ≤ b ∧ b ≤ 12 then p else (-2)) else (-2)) = (-2 : Int32) := fun p => by
        by_cases g : 1 ≤ a ∧ a ≤ 12
        · rw [if_pos g, if_neg (h3.resolve_left (fun h => h g))]
        · rw [if_neg g]
      rw [e] at hq
      exact hq
  · rw [if_neg h1] at hq
    exact hq
theorem a_whyM {L k a b : Int} {bs : List Bx} {wm : Wd} (hL : 4 ≤ L ∧ L ≤ 12) (hv : Val L bs) (hr : MRow (wm 0) L bs) (hk : ir k) (ha : ir a) (hb : ir b) {Q : Int32 → Wd → Prop} (hq : ∀ wm' : Wd, (∀ r, r ≤ 2 → wm' r = wm r) → Q (whyA L bs k a b) wm') : k_X4_why (iI k) (iI a) (iI b) wm Q := by
  have hlen := Val_len hv
  unfold whyA at hq
  unfold k_X4_why
  refine s_lay hL hv hr (fun w g m => ?_)
  replace hq := hq w (fun r h => g r (Or.inl h))
  have hr' : MRow (w 0) L bs := MRow_same (g 0 (by omega)) hr
  refine s_isCornerM (L := L) hlen m.2.1 hk (fun h1 h2 => ⟨fun _ => ?_, fun h => absurd h (by decide)⟩) (fun h1 => ⟨fun h => absurd rfl h, fun _ => ?_⟩)
  · have hh : 0 ≤ k ∧ k < 5 * bs.length + 1 := ⟨h1, h2⟩
    rw [if_pos hh] at hq
    refine s_in (l := 1) (h := 12) ha (by constructor <;> omega) (by constructor <;> omega) (fun h3 h4 => ⟨fun h => absurd h (by decide), fun _ => ?_⟩) (fun h3 => ⟨fun _ => ?_, fun h => absurd rfl h⟩)
    · have hA : 1 ≤ a ∧ a ≤ 12 := ⟨h3, h4⟩
      rw [if_pos hA] at hq
      refine s_in (l := 1) (h := 12) hb (by constructor <;> omega) (by constructor <;> omega) (fun h5 h6 => ⟨fun h => absurd h (by decide), fun _ => ?_⟩) (fun h5 => ⟨fun _ => ?_, fun h => absurd rfl h⟩)
      · have hB : 1 ≤ b ∧ b ≤ 12 := ⟨h5, h6⟩
        rw [if_pos hB] at hq
        obtain ⟨k', rfl⟩ : ∃ k' : Nat, k = k' := ⟨k.toNat, by omega⟩
        obtain ⟨a', rfl⟩ : ∃ a' : Nat, a = a' := ⟨a.toNat, by omega⟩
        obtain ⟨b', rfl⟩ : ∃ b' : Nat, b = b' := ⟨b.toNat, by omega⟩
        rw [Int.toNat_natCast] at hq
        exact s_whyNot hL hv m hr'.1 (by omega) (by omega) (by omega) hq
      · rw [if_neg h5] at hq
        exact hq
    · rw [if_neg h3] at hq
      exact hq
  · rw [if_neg h1] at hq
    exact hq
/-! corner -/
def cornV (L : Int) (bs : List Bx) (k : Nat) (y : Int32) : Int32 := if y = 0 then iI (cp bs k) + 100 else if y = 1 then iI (cq bs k) + 100 else if y = 2 then iI (cu bs k) + 1 else if y = 3 then iI (cv bs k) + 1 else if y = 4 then iI (rchK L bs k 0) else if y = 5 then iI (rchK L bs k 1) else -2
def cornA (L : Int) (bs : List Bx) (k : Int) (y : Int32) : Int32 := if 0 ≤ k ∧ k < 5 * bs.length + 1 then cornV L bs k.toNat y else -1
theorem a_corner {L k : Int} {y : Int32} {bs : List Bx} {wh wc : Wd} (hL : 4 ≤ L ∧ L ≤ 12) (hv : Val L bs) (hc : CR L bs wc) (hk : ir k) {Q : Int32 → Wd → Wd → Prop} (hq : Q (cornA L bs k y) wh wc) : k_X3_corner (iI k) y wh wc Q := by
  have hlen := Val_len hv
  unfold cornA at hq
  unfold k_X3_corner
  refine s_hasCorner hlen hc.2.1 hk (fun h1 h2 => ⟨fun _ => ?_, fun h => absurd h (by decide)⟩) (fun h1 => ⟨fun h => absurd rfl h, fun _ => ?_⟩)
  · have hh : 0 ≤ k ∧ k < 5 * bs.length + 1 := ⟨h1, h2⟩
    rw [if_pos hh] at hq
    obtain ⟨k', rfl⟩ : ∃ k' : Nat, k = k' := ⟨k.toNat, by omega⟩
    rw [Int.toNat_natCast] at hq
    obtain ⟨f1, f2, f3, f4⟩ := hc.2.2.2.2.1 k' (by omega)
    rw [tnN (by omega), f1, f2, f3, f4]
    have hin := inN (n := k') (N := 31) (by omega) (by decide)
    refine ⟨fun h => ⟨hin, ?_⟩, fun h => ⟨hin, ?_⟩, fun h => ⟨hin, ?_⟩, fun h => ⟨hin, ?_⟩, fun h => ?_, fun h => ?_, fun ⟨n0, n1, n2, n3, n4, n5⟩ => ?_⟩
    · subst h; exact hq
    · subst h; exact hq
    · subst h; exact hq
    · subst h; exact hq
    · subst h; exact s_reach (al := 0) hL hv hc (by omega) (by decide) hq
    · subst h; exact s_reach (al := 1) hL hv hc (by omega) (by decide) hq
    · unfold cornV at hq
      rw [if_neg n0, if_neg n1, if_neg n2, if_neg n3, if_neg n4, if_neg n5] at hq
      exact hq
  · rw [if_neg h1] at hq
    exact hq
theorem a_cornerM {L k : Int} {y : Int32} {bs : List Bx} {wm : Wd} (hL : 4 ≤ L ∧ L ≤ 12) (hv : Val L bs) (hr : MRow (wm 0) L bs) (hk : ir k) {Q : Int32 → Wd → Prop} (hq : ∀ wm' : Wd, (∀ r, r ≤ 2 → wm' r = wm r) → Q (cornA L bs k y) wm') : k_X4_corner (iI k) y wm Q := by
  have hlen := Val_len hv
  unfold cornA at hq
  unfold k_X4_corner
  refine s_lay hL hv hr (fun w g m => ?_)
  replace hq := hq w (fun r h => g r (Or.inl h))
  refine s_isCornerM (L := L) hlen m.2.1 hk (fun h1 h2 => ⟨fun _ => ?_, fun h => absurd h (by decide)⟩) (fun h1 => ⟨fun h => absurd rfl h, fun _ => ?_⟩)
  · have hh : 0 ≤ k ∧ k < 5 * bs.length + 1 := ⟨h1, h2⟩
    rw [if_pos hh] at hq
    obtain ⟨k', rfl⟩ : ∃ k' : Nat, k = k' := ⟨k.toNat, by omega⟩
    rw [Int.toNat_natCast] at hq
    obtain ⟨f1, f2, f3, f4⟩ := m.2.2.2.1 k' (by omega)
    rw [tnN (by omega), f1, f2, f3, f4]
    have hin := inN (n := k') (N := 41) (by omega) (by decide)
    refine ⟨fun h => ⟨hin, ?_⟩, fun h => ⟨hin, ?_⟩, fun h => ⟨hin, ?_⟩, fun h => ⟨hin, ?_⟩, fun h => ?_, fun h => ?_, fun ⟨n0, n1, n2, n3, n4, n5⟩ => ?_⟩
    · subst h; exact hq
    · subst h; exact hq
    · subst h; exact hq
    · subst h; exact hq
    · subst h; exact s_reachM (al := 0) hL hv m (by omega) (by decide) hq
    · subst h; exact s_reachM (al := 1) hL hv m (by omega) (by decide) hq
    · unfold cornV at hq
      rw [if_neg n0, if_neg n1, if_neg n2, if_neg n3, if_neg n4, if_neg n5] at hq
      exact hq
  · rw [if_neg h1] at hq
    exact hq
/-! face -/
def faceV (L : Int) (bs : List Bx) (j : Nat) (y : Int32) : Int32 := if y = 0 then iI (fw bs j) else if y = 1 then iI (fp bs j) + 100 else if y = 2 then iI (fq bs j) + 100 else if y = 3 then iI (fl L bs j) else -2
def faceA (L : Int) (bs : List Bx) (j : Int) (y : Int32) : Int32 := if 0 ≤ j ∧ j < 2 * bs.length + 2 then faceV L bs j.toNat y else -1
theorem a_face {L k : Int} {y : Int32} {bs : List Bx} {wh wc : Wd} (hv : Val L bs) (hc : CR L bs wc) (hk : ir k) {Q : Int32 → Wd → Wd → Prop} (hq : Q (faceA L bs k y) wh wc) : k_X3_face (iI k) y wh wc Q := by
  have hlen := Val_len hv
  unfold faceA at hq
  unfold k_X3_face
  refine s_hasFace hlen hc.2.1 hk (fun h1 h2 => ⟨fun _ => ?_, fun h => absurd h (by decide)⟩) (fun h1 => ⟨fun h => absurd rfl h, fun _ => ?_⟩)
  · have hh : 0 ≤ k ∧ k < 2 * bs.length + 2 := ⟨h1, h2⟩
    rw [if_pos hh] at hq
    obtain ⟨k', rfl⟩ : ∃ k' : Nat, k = k' := ⟨k.toNat, by omega⟩
    rw [Int.toNat_natCast] at hq
    obtain ⟨f1, -, -, f4⟩ := hc.2.2.2.1 k' (by omega)
    rw [tnN (by omega), f1, f4]
    have hin := inN (n := k') (N := 14) (by omega) (by decide)
    refine ⟨fun h => ⟨hin, ?_⟩, fun h => ?_, fun h => ?_, fun h => ⟨hin, ?_⟩, fun ⟨n0, n1, n2, n3⟩ => ?_⟩
    · subst h; exact hq
    · subst h; exact s_firstP hv hc (by omega) hq
    · subst h; exact s_firstQ hv hc (by omega) hq
    · subst h; exact hq
    · unfold faceV at hq
      rw [if_neg n0, if_neg n1, if_neg n2, if_neg n3] at hq
      exact hq
  · rw [if_neg h1] at hq
    exact hq
theorem a_faceM {L k : Int} {y : Int32} {bs : List Bx} {wm : Wd} (hL : 4 ≤ L ∧ L ≤ 12) (hv : Val L bs) (hr : MRow (wm 0) L bs) (hk : ir k) {Q : Int32 → Wd → Prop} (hq : ∀ wm' : Wd, (∀ r, r ≤ 2 → wm' r = wm r) → Q (faceA L bs k y) wm') : k_X4_face (iI k) y wm Q := by
  have hlen := Val_len hv
  unfold faceA at hq
  unfold k_X4_face
  refine s_lay hL hv hr (fun w g m => ?_)
  replace hq := hq w (fun r h => g r (Or.inl h))
  refine s_isFaceM (L := L) hlen m.1 hk (fun h1 h2 => ⟨fun _ => ?_, fun h => absurd h (by decide)⟩) (fun h1 => ⟨fun h => absurd rfl h, fun _ => ?_⟩)
  · have hh : 0 ≤ k ∧ k < 2 * bs.length + 2 := ⟨h1, h2⟩
    rw [if_pos hh] at hq
    obtain ⟨k', rfl⟩ : ∃ k' : Nat, k = k' := ⟨k.toNat, by omega⟩
    rw [Int.toNat_natCast] at hq
    obtain ⟨f1, f2, f3, f4⟩ := m.2.2.1 k' (by omega)
    rw [tnN (by omega), f1, f2, f3, f4]
    have hin := inN (n := k') (N := 18) (by omega) (by decide)
    refine ⟨fun h => ⟨hin, ?_⟩, fun h => ⟨hin, ?_⟩, fun h => ⟨hin, ?_⟩, fun h => ⟨hin, ?_⟩, fun ⟨n0, n1, n2, n3⟩ => ?_⟩
    · subst h; exact hq
    · subst h; exact hq
    · subst h; exact hq
    · subst h; exact hq
    · unfold faceV at hq
      rw [if_neg n0, if_neg n1, if_neg n2, if_neg n3] at hq
      exact hq
  · rw [if_neg h1] at hq
    exact hq
/-! on -/
def onA (L : Int) (bs : List Bx) (p q : Int) : Int32 := if -12 ≤ p ∧ p ≤ 12 then (if -12 ≤ q ∧ q ≤ 12 then iI (onN L bs (2 * bs.length + 2) p q) else -2) else -2
theorem a_on {L p q : Int} {bs : List Bx} {wh wc : Wd} (hL : 4 ≤ L ∧ L ≤ 12) (hv : Val L bs) (hc : CR L bs wc) (hp : ir p) (hq' : ir q) {Q : Int32 → Wd → Wd → Prop} (hq : Q (onA L bs p q) wh wc) : k_X3_on (iI p) (iI q) wh wc Q := by
  unfold onA at hq
  unfold k_X3_on
  rw [lm_12, li_12]
  refine s_isWithin (l := -12) (h := 12) hp (by constructor <;> omega) (by constructor <;> omega) (fun h1 h2 => ⟨fun h => absurd h (by decide), fun _ => ?_⟩) (fun h1 => ⟨fun _ => ?_, fun h => absurd rfl h⟩)
  · have hh : -12 ≤ p ∧ p ≤ 12 := ⟨h1, h2⟩
    rw [if_pos hh] at hq
    refine s_isWithin (l := -12) (h := 12) hq' (by constructor <;> omega) (by constructor <;> omega) (fun h3 h4 => ⟨fun _ => ?_, fun h => absurd h (by decide)⟩) (fun h3 => ⟨fun h => absurd rfl h, fun _ => ?_⟩)
    · have hh2 : -12 ≤ q ∧ q ≤ 12 := ⟨h3, h4⟩
      rw [if_pos hh2] at hq
      exact s_facesOn hL hv hc hh hh2 hq
    · rw [if_neg h3] at hq
      exact hq
  · rw [if_neg h1] at hq
    exact hq
theorem a_onM {L p q : Int} {bs : List Bx} {wm : Wd} (hL : 4 ≤ L ∧ L ≤ 12) (hv : Val L bs) (hr : MRow (wm 0) L bs) (hp : ir p) (hq' : ir q) {Q : Int32 → Wd → Prop} (hq : ∀ wm' : Wd, (∀ r, r ≤ 2 → wm' r = wm r) → Q (onA L bs p q) wm') : k_X4_on (iI p) (iI q) wm Q := by
  have hlen := Val_len hv
  unfold onA at hq
  unfold k_X4_on
  rw [lm_12, li_12]
  refine s_in (l := -12) (h := 12) hp (by constructor <;> omega) (by constructor <;> omega) (fun h1 h2 => ⟨fun h => absurd h (by decide), fun _ => ?_⟩) (fun h1 => ⟨fun _ => ?_, fun h => absurd rfl h⟩)
  · have hh : -12 ≤ p ∧ p ≤ 12 := ⟨h1, h2⟩
    rw [if_pos hh] at hq
    refine s_in (l := -12) (h := 12) hq' (by constructor <;> omega) (by constructor <;> omega) (fun h3 h4 => ⟨fun _ => ?_, fun h => absurd h (by decide)⟩) (fun h3 => ⟨fun h => absurd rfl h, fun _ => ?_⟩)
    · have hh2 : -12 ≤ q ∧ q ≤ 12 := ⟨h3, h4⟩
      rw [if_pos hh2] at hq
      refine s_lay hL hv hr (fun w g m => ?_)
      replace hq := hq w (fun r h => g r (Or.inl h))
      have c1 := iI_lt (a := p) (b := 0) hp (by constructor <;> omega)
      have c2 := iI_le (a := 0) (b := q) (by constructor <;> omega) hq'
      have zero : (p < 0 ∨ q < 0) → k_X4_on_37 Q w := fun h => by
        have := (onN_out (L := L) (by omega) hv (m := 2 * bs.length + 2) (p := p) (q := q) (by omega)).1
        rw [this] at hq
        exact hq
      refine ⟨fun h => zero (Or.inl (c1.mp h)), fun h => ⟨fun h5 => s_at ?_, fun h5 => zero (Or.inr (by have := mt c2.mpr h5; omega))⟩⟩
      have h6 := mt c1.mpr h
      have h7 := c2.mp h5
      obtain ⟨p', rfl⟩ : ∃ p' : Nat, p = p' := ⟨p.toNat, by omega⟩
      obtain ⟨q', rfl⟩ : ∃ q' : Nat, q = q' := ⟨q.toNat, by omega⟩
      obtain ⟨-, -, e⟩ := m.2.2.2.2 p' (by omega) q' (by omega)
      rw [show (13 * (q' : Int) + p') = ((13 * q' + p' : Nat) : Int) by omega, tnN (by omega), e]
      exact ⟨inN (by omega) (by decide), hq⟩
    · rw [if_neg h3] at hq
      exact hq wm (fun _ _ => rfl)
  · rw [if_neg h1] at hq
    exact hq wm (fun _ _ => rfl)
/-! ways, greatest -/
def swF (L : Int) (bs : List Bx) : S5 := if bs.length = 6 then (0, 0, -6, -6, -6) else sweepS L bs (0, 0, -6, -6, -6)
def Z0 (s : S5) : Prop := 0 ≤ s.2.1 ∧ (s.2.1 = 0 → s.2.2 = (-6, -6, -6))
theorem stepS_Z0 {L : Int} {bs : List Bx} {k : Nat} {a b : Int} {s : S5} (ha : 1 ≤ a ∧ a ≤ 12) (hb : 1 ≤ b ∧ b ≤ 12) (h : Z0 s) : Z0 (stepS L bs k a b s) := by
  have := mul_bd ha hb
  unfold Z0 at *
  unfold stepS meetS
  split
  · split
    · exact ⟨by dsimp only; omega, fun h0 => by dsimp only at h0; omega⟩
    · exact h
  · exact h
theorem loopB_Z0 {L : Int} {bs : List Bx} {k a : Nat} (ha : 1 ≤ a ∧ a ≤ 12) {s : S5} (h : Z0 s) : ∀ n, n ≤ 12 → Z0 (loopB L bs k a n s)
  | 0, _ => h
  | n + 1, hn => stepS_Z0 (by omega) (by omega) (loopB_Z0 ha h n (by omega))
theorem loopA_Z0 {L : Int} {bs : List Bx} {k rq : Nat} (hrq : rq ≤ 12) {s : S5} (h : Z0 s) : ∀ n, n ≤ 12 → Z0 (loopA L bs k rq n s)
  | 0, _ => h
  | n + 1, hn => loopB_Z0 (by omega) (loopA_Z0 hrq h n (by omega)) rq hrq
theorem loopK_Z0 {L : Int} {bs : List Bx} {s : S5} (h : Z0 s) : ∀ n, Z0 (loopK L bs n s)
  | 0 => h
  | n + 1 => loopA_Z0 (rch_le _) (loopK_Z0 h n) _ (rch_le _)
theorem swF_ok {L : Int} {bs : List Bx} (hlen : bs.length ≤ 6) : bdS 100000 (swF L bs) ∧ Z0 (swF L bs) ∧ ∀ z : Int × Int × Int, RS (swF L bs) (if bs.length = 6 then (0, 0, z) else sweepS L bs (0, 0, z)) := by
  unfold swF
  by_cases h6 : bs.length = 6
  · rw [if_pos h6]
    refine ⟨by unfold bdS; dsimp only; omega, ⟨Int.le_refl 0, fun _ => rfl⟩, fun z => ?_⟩
    rw [if_pos h6]
    exact ⟨rfl, rfl, fun h => absurd h (Int.lt_irrefl 0), Iff.rfl, Int.le_refl 0, Int.le_refl 0⟩
  · rw [if_neg h6]
    refine ⟨sweep_bd hlen _, loopK_Z0 ⟨Int.le_refl 0, fun _ => rfl⟩ _, fun z => ?_⟩
    rw [if_neg h6]
    exact sweep_RS _ _
theorem a_ways {L : Int} {bs : List Bx} {wh wc ws : Wd} (hL : 4 ≤ L ∧ L ≤ 12) (hv : Val L bs) (hc : CR L bs wc) {Q : Int32 → Wd → Wd → Wd → Prop} (hq : ∀ ws' : Wd, Q (iI (swF L bs).1) wh wc ws') : k_X3_ways wh wc ws Q := by
  unfold k_X3_ways
  refine s_sweep hL hv hc (fun ws' z hs => ?_)
  rw [hs.1, ← ((swF_ok (L := L) (Val_len hv)).2.2 z).1]
  exact hq ws'
theorem a_waysM {L : Int} {bs : List Bx} {wm : Wd} (hL : 4 ≤ L ∧ L ≤ 12) (hv : Val L bs) (hr : MRow (wm 0) L bs) {Q : Int32 → Wd → Prop} (hq : ∀ wm' : Wd, (∀ r, r ≤ 2 → wm' r = wm r) → Q (iI (swF L bs).1) wm') : k_X4_ways wm Q := by
  unfold k_X4_ways
  refine s_lay hL hv hr (fun w g m => ⟨in1 (by decide) (by decide), ?_⟩)
  have hr' : MRow (w 0) L bs := MRow_same (g 0 (by omega)) hr
  rw [o1N, hr'.2.1]
  refine s_layWays hL hv m hr'.1 (fun w' g' hs => ?_)
  rw [hs.1]
  exact hq w' (fun r h => by rw [g' r (by omega), g r (Or.inl h)])
def greatA (L : Int) (bs : List Bx) (z : Int) : Int32 := if 0 ≤ z ∧ z ≤ 3 then (if (swF L bs).2.1 = 0 then -6 else if z = 0 then iI (swF L bs).2.1 else if z = 1 then iI (swF L bs).2.2.1 else if z = 2 then iI (swF L bs).2.2.2.1 else iI (swF L bs).2.2.2.2) else -2
theorem a_greatest {L z : Int} {bs : List Bx} {wh wc ws : Wd} (hL : 4 ≤ L ∧ L ≤ 12) (hv : Val L bs) (hc : CR L bs wc) (hz : ir z) {Q : Int32 → Wd → Wd → Wd → Prop} (hq : ∀ ws' : Wd, Q (greatA L bs z) wh wc ws') : k_X3_greatest (iI z) wh wc ws Q := by
  obtain ⟨hb, -, hR⟩ := swF_ok (L := L) (Val_len hv)
  unfold greatA at hq
  unfold k_X3_greatest
  refine s_isWithin (l := 0) (h := 3) hz (by constructor <;> omega) (by constructor <;> omega) (fun h1 h2 => ⟨fun _ => ?_, fun h => absurd h (by decide)⟩) (fun h1 => ⟨fun h => absurd rfl h, fun _ => ?_⟩)
  · have hh : 0 ≤ z ∧ z ≤ 3 := ⟨h1, h2⟩
    rw [if_pos hh] at hq
    refine s_sweep hL hv hc (fun ws' zz hs => ?_)
    obtain ⟨r1, r2, r3, r4, r5, r6⟩ := hR zz
    obtain ⟨s0, s1, s2, s3, s4⟩ := hs
    unfold bdS at hb
    replace hq := hq ws'
    generalize (if bs.length = 6 then (0, 0, zz) else sweepS L bs (0, 0, zz)) = T at r1 r2 r3 s0 s1 s2 s3 s4
    generalize swF L bs = S at *
    rw [s0, s1, s2, s3, s4, ← r1, ← r2]
    have c0 := iI_eq (a := S.1) (b := 0) (by constructor <;> omega) (by constructor <;> omega)
    have e0 := iI_eq (a := z) (b := 0) (by constructor <;> omega) (by constructor <;> omega)
    have e1 := iI_eq (a := z) (b := 1) (by constructor <;> omega) (by constructor <;> omega)
    have e2 := iI_eq (a := z) (b := 2) (by constructor <;> omega) (by constructor <;> omega)
    refine ⟨fun h => ?_, fun h => ?_⟩
    · have h3 : ¬ S.2.1 = 0 := fun h' => h (c0.mpr (r4.mpr h'))
      rw [if_neg h3] at hq
      rw [← r3 (by omega)]
      refine ⟨fun h5 => ?_, fun h5 => ?_, fun h5 => ?_, fun ⟨n0, n1, n2⟩ => ?_⟩
      · rw [if_pos (e0.mp h5)] at hq; exact hq
      · have := e1.mp h5
        rw [if_neg (by omega), if_pos this] at hq; exact hq
      · have := e2.mp h5
        rw [if_neg (by omega), if_neg (by omega), if_pos this] at hq; exact hq
      · rw [if_neg (mt e0.mpr n0), if_neg (mt e1.mpr n1), if_neg (mt e2.mpr n2)] at hq; exact hq
    · have h3 : S.2.1 = 0 := r4.mp (c0.mp h)
      rw [if_pos h3] at hq
      exact hq
  · rw [if_neg h1] at hq
    exact hq ws
theorem a_greatestM {L z : Int} {bs : List Bx} {wm : Wd} (hL : 4 ≤ L ∧ L ≤ 12) (hv : Val L bs) (hr : MRow (wm 0) L bs) (hz : ir z) {Q : Int32 → Wd → Prop} (hq : ∀ wm' : Wd, (∀ r, r ≤ 2 → wm' r = wm r) → Q (greatA L bs z) wm') : k_X4_greatest (iI z) wm Q := by
  obtain ⟨hb, hZ, -⟩ := swF_ok (L := L) (Val_len hv)
  unfold greatA at hq
  unfold k_X4_greatest
  refine s_in (l := 0) (h := 3) hz (by constructor <;> omega) (by constructor <;> omega) (fun h1 h2 => ⟨fun _ => ?_, fun h => absurd h (by decide)⟩) (fun h1 => ⟨fun h => absurd rfl h, fun _ => ?_⟩)
  · have hh : 0 ≤ z ∧ z ≤ 3 := ⟨h1, h2⟩
    rw [if_pos hh] at hq
    refine s_lay hL hv hr (fun w g m => ⟨in1 (by decide) (by decide), ?_⟩)
    have hr' : MRow (w 0) L bs := MRow_same (g 0 (by omega)) hr
    rw [o1N, hr'.2.1]
    refine s_layWays hL hv m hr'.1 (fun w' g' hs => ?_)
    replace hq := hq w' (fun r h => by rw [g' r (by omega), g r (Or.inl h)])
    change MS w' (swF L bs) at hs
    obtain ⟨s0, s1, s2, s3, s4⟩ := hs
    unfold bdS at hb
    unfold Z0 at hZ
    generalize swF L bs = S at *
    rw [s1, s2, s3, s4]
    have c0 := iI_le (a := S.2.1) (b := 0) (by constructor <;> omega) (by constructor <;> omega)
    have e0 := iI_eq (a := z) (b := 0) (by constructor <;> omega) (by constructor <;> omega)
    have e1 := iI_eq (a := z) (b := 1) (by constructor <;> omega) (by constructor <;> omega)
    have e2 := iI_eq (a := z) (b := 2) (by constructor <;> omega) (by constructor <;> omega)
    by_cases h3 : S.2.1 = 0
    · rw [if_pos h3] at hq
      rw [hZ.2 h3]
      exact ⟨fun _ => ⟨fun _ => ⟨fun _ => hq, fun _ => hq⟩, fun _ => hq⟩, fun _ => ⟨fun _ => hq, fun h => absurd (c0.mpr (by omega)) h⟩⟩
    · rw [if_neg h3] at hq
      refine ⟨fun n0 => ⟨fun n1 => ⟨fun n2 => ?_, fun h5 => ?_⟩, fun h5 => ?_⟩, fun h5 => ⟨fun h => absurd (c0.mp h) (by omega), fun _ => ?_⟩⟩
      · rw [if_neg (mt e0.mpr n0), if_neg (mt e1.mpr n1), if_neg (mt e2.mpr n2)] at hq; exact hq
      · have := e2.mp h5
        rw [if_neg (by omega), if_neg (by omega), if_pos this] at hq; exact hq
      · have := e1.mp h5
        rw [if_neg (by omega), if_pos this] at hq; exact hq
      · rw [if_pos (e0.mp h5)] at hq; exact hq
  · rw [if_neg h1] at hq
    exact hq wm (fun _ _ => rfl)
/-! two -/
def twoA (L : Int) (bs : List Bx) : Int32 := iI (if bs.length = 6 then -6 else tK L bs (5 * bs.length + 1) (-6))
theorem a_two {L : Int} {bs : List Bx} {wh wc ws : Wd} (hL : 4 ≤ L ∧ L ≤ 12) (hv : Val L bs) (hc : CR L bs wc) {Q : Int32 → Wd → Wd → Wd → Prop} (hq : ∀ wc' ws' : Wd, CR L bs wc' → Q (twoA L bs) wh wc' ws') : k_X3_two wh wc ws Q := by
  have hlen := Val_len hv
  unfold twoA at hq
  unfold k_X3_two
  refine s_bestTwo hL hv hc (fun ws' wc' hc' => ?_)
  replace hq := hq wc' ws' hc'
  by_cases h6 : bs.length = 6
  · rw [if_pos h6] at hq ⊢
    exact ⟨fun h => absurd rfl h, fun _ => hq⟩
  · rw [if_neg h6] at hq ⊢
    have hR := tK_R2 (L := L) (bs := bs) (by omega) R2_0 (5 * bs.length + 1)
    unfold R2 at hR
    have c0 := iI_eq (a := tK L bs (5 * bs.length + 1) 0) (b := 0) (by constructor <;> omega) (by constructor <;> omega)
    refine ⟨fun h => ?_, fun h => ?_⟩
    · have := mt c0.mpr h
      rw [show tK L bs (5 * bs.length + 1) 0 = tK L bs (5 * bs.length + 1) (-6) by omega]
      exact hq
    · have := c0.mp h
      rw [show tK L bs (5 * bs.length + 1) (-6) = -6 by omega] at hq
      exact hq
