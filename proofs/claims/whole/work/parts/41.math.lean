/-! the card by numbers alone: the boxes, the last one first; corners and faces that they bring -/
abbrev Bx : Type := Nat × Int × Int
def cu : List Bx → Nat → Int
  | [], _ => 1
  | x :: bs, j => if j < 5 * bs.length + 1 then cu bs j else if j = 5 * bs.length + 1 ∨ j = 5 * bs.length + 5 then -cu bs x.1 else cu bs x.1
def cv : List Bx → Nat → Int
  | [], _ => 1
  | x :: bs, j => if j < 5 * bs.length + 1 then cv bs j else if j = 5 * bs.length + 3 ∨ j = 5 * bs.length + 5 then -cv bs x.1 else cv bs x.1
def cp : List Bx → Nat → Int
  | [], _ => 0
  | x :: bs, j => if j < 5 * bs.length + 1 then cp bs j else if j = 5 * bs.length + 3 ∨ j = 5 * bs.length + 4 then cp bs x.1 else cp bs x.1 + cu bs x.1 * x.2.1
def cq : List Bx → Nat → Int
  | [], _ => 0
  | x :: bs, j => if j < 5 * bs.length + 1 then cq bs j else if j = 5 * bs.length + 1 ∨ j = 5 * bs.length + 2 then cq bs x.1 else cq bs x.1 + cv bs x.1 * x.2.2
def fw : List Bx → Nat → Int
  | [], j => if j = 0 then 0 else 1
  | _ :: bs, j => if j < 2 * bs.length + 2 then fw bs j else if j = 2 * bs.length + 2 then 1 else 0
def fp : List Bx → Nat → Int
  | [], _ => 0
  | x :: bs, j => if j < 2 * bs.length + 2 then fp bs j else if j = 2 * bs.length + 2 then cp bs x.1 + cu bs x.1 * x.2.1 else min (cp bs x.1) (cp bs x.1 + cu bs x.1 * x.2.1)
def fq : List Bx → Nat → Int
  | [], _ => 0
  | x :: bs, j => if j < 2 * bs.length + 2 then fq bs j else if j = 2 * bs.length + 2 then min (cq bs x.1) (cq bs x.1 + cv bs x.1 * x.2.2) else cq bs x.1 + cv bs x.1 * x.2.2
def fl (L : Int) : List Bx → Nat → Int
  | [], _ => L
  | x :: bs, j => if j < 2 * bs.length + 2 then fl L bs j else if j = 2 * bs.length + 2 then x.2.2 else x.2.1
def bx : List Bx → Nat → Bx
  | [], _ => (0, 0, 0)
  | x :: bs, i => if i < bs.length then bx bs i else x
def tri (L p q : Int) : Prop := 0 ≤ p ∧ 0 ≤ q ∧ p + q ≤ L
def Val (L : Int) : List Bx → Prop
  | [] => True
  | x :: bs => Val L bs ∧ bs.length < 6 ∧ x.1 < 5 * bs.length + 1 ∧ 1 ≤ x.2.1 ∧ 1 ≤ x.2.2 ∧ tri L (cp bs x.1 + cu bs x.1 * x.2.1) (cq bs x.1) ∧ tri L (cp bs x.1) (cq bs x.1 + cv bs x.1 * x.2.2) ∧ tri L (cp bs x.1 + cu bs x.1 * x.2.1) (cq bs x.1 + cv bs x.1 * x.2.2)
theorem Val_len {L : Int} : ∀ {bs : List Bx}, Val L bs → bs.length ≤ 6
  | [], _ => Nat.zero_le _
  | _ :: bs, h => by have := h.2.1; simp only [List.length_cons]; omega
theorem cu_pm : ∀ (bs : List Bx) (j : Nat), cu bs j = 1 ∨ cu bs j = -1
  | [], _ => Or.inl rfl
  | x :: bs, j => by
    unfold cu
    have h1 := cu_pm bs j
    have h2 := cu_pm bs x.1
    split
    · exact h1
    · split <;> omega
theorem cv_pm : ∀ (bs : List Bx) (j : Nat), cv bs j = 1 ∨ cv bs j = -1
  | [], _ => Or.inl rfl
  | x :: bs, j => by
    unfold cv
    have h1 := cv_pm bs j
    have h2 := cv_pm bs x.1
    split
    · exact h1
    · split <;> omega
theorem ctri {L : Int} (hL : 0 ≤ L) : ∀ {bs : List Bx}, Val L bs → ∀ j : Nat, tri L (cp bs j) (cq bs j)
  | [], _, _ => ⟨Int.le_refl 0, Int.le_refl 0, by simpa [cp, cq] using hL⟩
  | x :: bs, h, j => by
    obtain ⟨hv, -, -, -, -, t1, t2, t3⟩ := h
    unfold cp cq
    have h0 := ctri hL hv x.1
    split
    · exact ctri hL hv j
    · split
      · split
        · omega
        · exact t2
      · split
        · exact t1
        · exact t3
theorem fw_01 : ∀ (bs : List Bx) (j : Nat), fw bs j = 0 ∨ fw bs j = 1
  | [], j => by unfold fw; split <;> simp
  | x :: bs, j => by
    unfold fw
    split
    · exact fw_01 bs j
    · split <;> simp
theorem ftri {L : Int} (hL : 1 ≤ L) : ∀ {bs : List Bx}, Val L bs → ∀ j : Nat, 0 ≤ fp bs j ∧ 0 ≤ fq bs j ∧ 1 ≤ fl L bs j ∧ fp bs j + fq bs j + fl L bs j ≤ L
  | [], _, _ => by simp [fp, fq, fl]; omega
  | x :: bs, h, j => by
    obtain ⟨hv, -, -, ha, hb, t1, t2, t3⟩ := h
    have h0 := ctri (by omega) hv x.1
    unfold tri at *
    have hu := cu_pm bs x.1
    have hw := cv_pm bs x.1
    unfold fp fq fl
    split
    · exact ftri hL hv j
    · split
      · rcases hw with hw | hw <;> simp only [hw] at * <;> omega
      · rcases hu with hu | hu <;> simp only [hu] at * <;> omega
/-- how many faces a place lies on, and unit pieces along p and q -/
def onB (L : Int) (bs : List Bx) (p q : Int) (j : Nat) : Bool := decide ((fw bs j = 0 ∧ q = fq bs j ∧ fp bs j ≤ p ∧ p ≤ fp bs j + fl L bs j) ∨ (fw bs j = 1 ∧ p = fp bs j ∧ fq bs j ≤ q ∧ q ≤ fq bs j + fl L bs j))
def spB (L : Int) (bs : List Bx) (p q : Int) (j : Nat) : Bool := decide (fw bs j = 0 ∧ q = fq bs j ∧ fp bs j ≤ p ∧ p < fp bs j + fl L bs j)
def sqB (L : Int) (bs : List Bx) (p q : Int) (j : Nat) : Bool := decide (fw bs j = 1 ∧ p = fp bs j ∧ fq bs j ≤ q ∧ q < fq bs j + fl L bs j)
def onN (L : Int) (bs : List Bx) (m : Nat) (p q : Int) : Nat := fb_ct (onB L bs p q) m
def spN (L : Int) (bs : List Bx) (m : Nat) (p q : Int) : Nat := fb_ct (spB L bs p q) m
def sqN (L : Int) (bs : List Bx) (m : Nat) (p q : Int) : Nat := fb_ct (sqB L bs p q) m
theorem face_tail {L : Int} (x : Bx) (bs : List Bx) {j : Nat} (h : j < 2 * bs.length + 2) : fw (x :: bs) j = fw bs j ∧ fp (x :: bs) j = fp bs j ∧ fq (x :: bs) j = fq bs j ∧ fl L (x :: bs) j = fl L bs j := by
  simp [fw, fp, fq, fl, h]
theorem corner_tail (x : Bx) (bs : List Bx) {j : Nat} (h : j < 5 * bs.length + 1) : cp (x :: bs) j = cp bs j ∧ cq (x :: bs) j = cq bs j ∧ cu (x :: bs) j = cu bs j ∧ cv (x :: bs) j = cv bs j := by
  simp [cp, cq, cu, cv, h]
theorem onN_tail {L : Int} (x : Bx) (bs : List Bx) {m : Nat} (h : m ≤ 2 * bs.length + 2) (p q : Int) : onN L (x :: bs) m p q = onN L bs m p q ∧ spN L (x :: bs) m p q = spN L bs m p q ∧ sqN L (x :: bs) m p q = sqN L bs m p q := by
  refine ⟨fb_ct_cong (fun k hk => ?_), fb_ct_cong (fun k hk => ?_), fb_ct_cong (fun k hk => ?_)⟩ <;>
  · obtain ⟨h1, h2, h3, h4⟩ := face_tail (L := L) x bs (j := k) (by omega)
    first | (unfold onB; rw [h1, h2, h3, h4]) | (unfold spB; rw [h1, h2, h3, h4]) | (unfold sqB; rw [h1, h2, h3, h4])
/-- places outside lie on no face -/
theorem onN_out {L : Int} (hL : 1 ≤ L) {bs : List Bx} (hv : Val L bs) {m : Nat} {p q : Int} (h : p < 0 ∨ q < 0 ∨ L < p ∨ L < q) : onN L bs m p q = 0 ∧ spN L bs m p q = 0 ∧ sqN L bs m p q = 0 := by
  refine ⟨fb_ct_zero.mpr (fun k hk => ?_), fb_ct_zero.mpr (fun k hk => ?_), fb_ct_zero.mpr (fun k hk => ?_)⟩ <;>
  · have := ftri hL hv k
    first | unfold onB | unfold spB | unfold sqB
    exact decide_eq_false (by omega)
theorem sp_end {L : Int} (hL : 1 ≤ L) {bs : List Bx} (hv : Val L bs) {m : Nat} {p q : Int} (h : 0 < spN L bs m p q) : tri L p q ∧ tri L (p + 1) q := by
  obtain ⟨k, hk, hb⟩ := fb_ct_pos.mp h
  have := ftri hL hv k
  unfold spB at hb
  have := of_decide_eq_true hb
  unfold tri
  omega
theorem sq_end {L : Int} (hL : 1 ≤ L) {bs : List Bx} (hv : Val L bs) {m : Nat} {p q : Int} (h : 0 < sqN L bs m p q) : tri L p q ∧ tri L p (q + 1) := by
  obtain ⟨k, hk, hb⟩ := fb_ct_pos.mp h
  have := ftri hL hv k
  unfold sqB at hb
  have := of_decide_eq_true hb
  unfold tri
  omega
