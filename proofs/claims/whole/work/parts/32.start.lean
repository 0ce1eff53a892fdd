theorem st_xN {s : State} {b : Nat} (hts : ∀ w ∈ lw_tbl, w.before #[Value.ref b] s = true) : xN s := ⟨va_Nw.of rfl (hts _ (List.mem_append_right _ (List.mem_append_left _ (List.mem_of_getElem? (i := 114) rfl)))), va_Nw.of rfl (hts _ (List.mem_append_right _ (List.mem_append_left _ (List.mem_of_getElem? (i := 141) rfl)))), va_Nw.of rfl (hts _ (List.mem_append_right _ (List.mem_append_left _ (List.mem_of_getElem? (i := 220) rfl)))), va_Nw.of rfl (hts _ (List.mem_append_right _ (List.mem_append_right _ (List.mem_append_left _ (List.mem_of_getElem? (i := 50) rfl))))), va_Nw.of rfl (hts _ (List.mem_append_right _ (List.mem_append_right _ (List.mem_append_left _ (List.mem_of_getElem? (i := 103) rfl))))), va_Nw.of rfl (hts _ (List.mem_append_right _ (List.mem_append_right _ (List.mem_append_left _ (List.mem_of_getElem? (i := 116) rfl))))), va_Nw.of rfl (hts _ (List.mem_append_right _ (List.mem_append_right _ (List.mem_append_left _ (List.mem_of_getElem? (i := 133) rfl))))), va_Nw.of rfl (hts _ (List.mem_append_right _ (List.mem_append_right _ (List.mem_append_left _ (List.mem_of_getElem? (i := 142) rfl))))), va_Nw.of rfl (hts _ (List.mem_append_right _ (List.mem_append_right _ (List.mem_append_left _ (List.mem_of_getElem? (i := 145) rfl))))), va_Nw.of rfl (hts _ (List.mem_append_right _ (List.mem_append_right _ (List.mem_append_left _ (List.mem_of_getElem? (i := 146) rfl)))))⟩
theorem st_t1 {s : State} {b : Nat} {A : Nat → Prop} (hts : ∀ w ∈ lw_tbl, w.before #[Value.ref b] s = true) (hgv : (Jvm.Cond.and given_1 narrow_1).before #[Value.ref b] s = true) (hA : ∀ a : Nat, a < s.heap.size → ¬ A a) : ∃ t : Nat, va_Z "HingeCards" "STEP_C" "[I" (.ref t) A s s.heap ∧ va_T .int t 11 (fun j => .int (tabC j)) A s s.heap := by
  have hs := flat_of_before _ hgv
  have harr : (Cond.arrayOf (.static "HingeCards" "STEP_C" "[I") .int).before #[Value.ref b] s = true := hs _ (by decide +kernel)
  have hlen : (Cond.eq (.length (.static "HingeCards" "STEP_C" "[I")) (.int 11)).before #[Value.ref b] s = true := hs _ (by decide +kernel)
  have hel : ∀ j : Nat, j < 11 → (Cond.eq (.elem (.static "HingeCards" "STEP_C" "[I") (.int (Int32.ofNat j))) (.int (tabC j))).before #[Value.ref b] s = true := fun j hj => match j, hj with
    | 0, _ => hs _ (by decide +kernel)
    | 1, _ => hs _ (by decide +kernel)
    | 2, _ => hs _ (by decide +kernel)
    | 3, _ => hs _ (by decide +kernel)
    | 4, _ => hs _ (by decide +kernel)
    | 5, _ => hs _ (by decide +kernel)
    | 6, _ => hs _ (by decide +kernel)
    | 7, _ => hs _ (by decide +kernel)
    | 8, _ => hs _ (by decide +kernel)
    | 9, _ => hs _ (by decide +kernel)
    | 10, _ => hs _ (by decide +kernel)
    | n + 11, h => absurd h (by omega)
  obtain ⟨t, ht, hT⟩ := va_Tof (N := 11) (f := fun j => .int (tabC j)) (A := A) (by decide) harr (va_eqt hlen) (fun j hj => va_eqt (hel j hj)) hA
  exact ⟨t, va_Zref (hts (.laysStatic "HingeCards" "STEP_C" "[I") (List.mem_append_right _ (List.mem_append_right _ (List.mem_append_left _ (List.mem_of_getElem? (i := 107) rfl))))) (hts (.initialized "HingeCards") (List.mem_append_right _ (List.mem_append_left _ (List.mem_of_getElem? (i := 1) rfl)))) ht hA, hT⟩
theorem st_t2 {s : State} {b : Nat} {A : Nat → Prop} (hts : ∀ w ∈ lw_tbl, w.before #[Value.ref b] s = true) (hgv : (Jvm.Cond.and given_1 narrow_1).before #[Value.ref b] s = true) (hA : ∀ a : Nat, a < s.heap.size → ¬ A a) : ∃ t : Nat, va_Z "HingeCards" "STEP_S" "[I" (.ref t) A s s.heap ∧ va_T .int t 11 (fun j => .int (tabS j)) A s s.heap := by
  have hs := flat_of_before _ hgv
  have harr : (Cond.arrayOf (.static "HingeCards" "STEP_S" "[I") .int).before #[Value.ref b] s = true := hs _ (by decide +kernel)
  have hlen : (Cond.eq (.length (.static "HingeCards" "STEP_S" "[I")) (.int 11)).before #[Value.ref b] s = true := hs _ (by decide +kernel)
  have hel : ∀ j : Nat, j < 11 → (Cond.eq (.elem (.static "HingeCards" "STEP_S" "[I") (.int (Int32.ofNat j))) (.int (tabS j))).before #[Value.ref b] s = true := fun j hj => match j, hj with
    | 0, _ => hs _ (by decide +kernel)
    | 1, _ => hs _ (by decide +kernel)
    | 2, _ => hs _ (by decide +kernel)
    | 3, _ => hs _ (by decide +kernel)
    | 4, _ => hs _ (by decide +kernel)
    | 5, _ => hs _ (by decide +kernel)
    | 6, _ => hs _ (by decide +kernel)
    | 7, _ => hs _ (by decide +kernel)
    | 8, _ => hs _ (by decide +kernel)
    | 9, _ => hs _ (by decide +kernel)
    | 10, _ => hs _ (by decide +kernel)
    | n + 11, h => absurd h (by omega)
  obtain ⟨t, ht, hT⟩ := va_Tof (N := 11) (f := fun j => .int (tabS j)) (A := A) (by decide) harr (va_eqt hlen) (fun j hj => va_eqt (hel j hj)) hA
  exact ⟨t, va_Zref (hts (.laysStatic "HingeCards" "STEP_S" "[I") (List.mem_append_right _ (List.mem_append_right _ (List.mem_append_left _ (List.mem_of_getElem? (i := 120) rfl))))) (hts (.initialized "HingeCards") (List.mem_append_right _ (List.mem_append_left _ (List.mem_of_getElem? (i := 1) rfl)))) ht hA, hT⟩
theorem st_arr {s : State} {args : Array Value} {ty : FieldType} (h : (Cond.arrayClass ty).before args s = true) : ∃ cA : ClassId, ArrOfT s cA ty ∧ s.vm.findClass ("[" ++ ty.toString) = some cA := by
  obtain ⟨c, k, comp, h1, h2, h3⟩ := Cond.arrayClass_spec h
  exact ⟨c, fun n z => ⟨fun k h => (by cases h), k, h2, comp, h3⟩, h1⟩
abbrev wm0 : Wd := up2 w00 0 (0 : Int32).toNatClampNeg 8
/-- what is left to be shown of numbers alone -/
def PureOK (L : Nat) (xs : Nat → Int32) : Prop := k_X0_begin 8 w00 (fun wc => k_X0_begin 8 w00 (fun wi => k_X0_begin 8 w00 (fun wj => ∃ n : Nat, lpf (fun (K : (Int32 × Wd × Wd × Wd × Wd × Wd × Wd × Wd) → Prop) (u : Int32 × Wd × Wd × Wd × Wd × Wd × Wd × Wd) => k_L_law_18 K L xs u.1 u.2.1 u.2.2.1 u.2.2.2.1 u.2.2.2.2.1 u.2.2.2.2.2.1 u.2.2.2.2.2.2.1 u.2.2.2.2.2.2.2) n (0, w00, wc, wi, wj, w00, w00, wm0))))
set_option maxHeartbeats 4000000 in
set_option maxRecDepth 100000 in
theorem whole_open {p : Program} {e : Env} {s : State} {m : MethodId} {below : List Frame} {meth : Method} {c : Code} (l : Launch) {b L : Nat} {xs : Nat → Int32} (hq : PureOK L xs) (C0 : lw_At p s m meth c b L xs) : W p l e room_1 s m #[Value.ref b] below meth c s.heap [] 0 0 (lw_Z below #[Value.ref b] s) (entryFrame m ([Value.ref b] : List Value).toArray 4) := by
  obtain ⟨hx, hb, hr, hml, hown, hts, hX, hbl, hlocks, hgv⟩ := id C0
  have hg : ∀ w ∈ gB, w.before #[Value.ref b] s = true := fun w h => hts w (gB_in w h)
  obtain ⟨A, hAe⟩ : ∃ A : Nat → Prop, A = (fun q : Nat => s.heap.size ≤ q) := ⟨_, rfl⟩
  have hA : ∀ q : Nat, s.heap.size ≤ q → A q := fun q h => by rw [hAe]; exact h
  have hA2 : ∀ q : Nat, A q → s.heap.size ≤ q := fun q h => by rw [hAe] at h; exact h
  have hA3 : ∀ q : Nat, q < s.heap.size → ¬ A q := fun q h h2 => absurd (hA2 q h2) (Nat.not_le.mpr h)
  have hX : LwX b L xs s A := ⟨hX, hbl, hA3 b hbl, hA2⟩
  obtain ⟨c0, iS0, hKn0⟩ := u_known (C := RX0) (T := TX0) (N := 15) (n := 15) hg inX0 (hg _ q_13)
  obtain ⟨c1, iS1, hKn1⟩ := u_known (C := RX1) (T := TX1) (N := 5) (n := 5) hg inX1 (hg _ q_20)
  obtain ⟨c2, iS2, hKn2⟩ := u_known (C := RX2) (T := TX2) (N := 4) (n := 4) hg inX2 (hg _ q_24)
  obtain ⟨c3, iS3, hKn3⟩ := u_known (C := RX3) (T := TX3) (N := 6) (n := 6) hg inX3 (hg _ q_1)
  obtain ⟨c4, iS4, hKn4⟩ := u_known (C := RX4) (T := TX4) (N := 23) (n := 23) hg inX4 (hg _ q_4)
  obtain ⟨dC, dI, hKc⟩ : ∃ (dC : Nat → ClassId) (dI : Nat → Nat → Nat), ∀ (k : Nat) (q : vw_C), vwCl[k]? = some q → u_Kn s q.1 q.2.1 q.2.2 (dC k) (dI k) := by
    refine ⟨fun k => match k with | 0 => c0 | 1 => c1 | 2 => c2 | 3 => c3 | _ => c4, fun k => match k with | 0 => iS0 | 1 => iS1 | 2 => iS2 | 3 => iS3 | _ => iS4, ?_⟩
    intro k q hq
    match k, hq with
    | 0, hq => cases hq; exact hKn0
    | 1, hq => cases hq; exact hKn1
    | 2, hq => cases hq; exact hKn2
    | 3, hq => cases hq; exact hKn3
    | 4, hq => cases hq; exact hKn4
    | k + 5, hq => simp [vwCl] at hq
  obtain ⟨cy, hy1, hy2⟩ := st_arr (hg _ q_31)
  obtain ⟨cz, hz1, hz2⟩ := st_arr (hg _ q_93)
  obtain ⟨t1, hZ1, hT1⟩ := st_t1 hts hgv hA3
  obtain ⟨t2, hZ2, hT2⟩ := st_t2 hts hgv hA3
  obtain ⟨D, hDe⟩ : ∃ D : va_G, D = (dC, dI) := ⟨_, rfl⟩
  have hK : va_K D vwCl (tY cy cz) s := by
    rw [hDe]
    refine ⟨hKc, fun k q h => ?_⟩
    match k, h with
    | 0, h => cases h; exact ⟨hy1, hy2⟩
    | 1, h => cases h; exact ⟨hz1, hz2⟩
    | k + 2, h => simp [tY] at h
  have hC : Cx D cy cz t1 t2 p s m #[Value.ref b] meth c cL_law 4 ret RL A := ⟨hx, hb, hr, hml, hown, hg, hlocks, hK, hA, st_xN hts, hZ1, hT1, hZ2, hT2⟩
  have hW : Wo D A s ([] : va_W) s.heap [] := ⟨fun k q h => by simp at h, ⟨fun i j p q h => by simp at h, fun k q h => by simp at h⟩, va_S.rf⟩
  have hl := lv_entry ([.ref b]) (n := 4) (Nat.le_of_ble_eq_true rfl)
  rw [lg_entry_eq]
  generalize (lg_sl ([.ref b]) ++ List.replicate (4 - (lg_sl ([.ref b])).length) Slot.unset).toArray = ls at hl ⊢
  have hl : lv_has ls 4 [(0, .ref b)] := hl
  unfold PureOK at hq
  refine hc_new hC hW 3 [.null, .null, .null, .int 0, .null, .null] inX3 tyX3 tyX3_ok q_0 q_1 q_2 rfl (fun j hj => by exact (match j, hj with | 0, _ => rfl | 1, _ => rfl | 2, _ => rfl | 3, _ => rfl | 4, _ => rfl | 5, _ => rfl | n + 6, h => absurd h (by omega))) (Nat.le_of_ble_eq_true rfl) (Nat.le_of_ble_eq_true rfl) dL_law_0 (fun hh H hW => ?_)
  refine W.widen (k := 1) (n := 6) (Nat.le_of_ble_eq_true rfl) (Nat.le_of_ble_eq_true rfl) ?_
  have hW : Wo D A s [(hh, .inr (3, [.null, .null, .null, .int 0, .null, .null]))] H _ := hW
  refine lv_dup hC.x hC.b dL_law_3 rfl ?_
  refine hc_goN hC hW (hc_rI hC (c_X3_init l D cy cz t1 t2 hh _ hq) (hc_preS hC hW [0] rfl rfl) q_6 q_7 q_2 q_8 rfl hdi_X3_init ⟨rfl, rfl⟩ ⟨Nat.le_of_ble_eq_true rfl, Nat.le_of_ble_eq_true rfl⟩ hl.1 rfl (Nat.le_of_ble_eq_true rfl) dL_law_4 ⟨Nat.le_of_ble_eq_true rfl, Nat.le_of_ble_eq_true rfl⟩) [0] [] [] rfl rfl rfl (by decide) (fun u9 H locs hq hW => ?_)
  obtain ⟨⟨hc, ac, wc⟩, ⟨hi, ai, wi⟩, ⟨hj, aj, wj⟩, hs, ht⟩ := u9
  refine W.widen (k := 45) (n := 810) (Nat.le_of_ble_eq_true rfl) (Nat.le_of_ble_eq_true rfl) ?_
  have hW : Wo D A s (cH hh hc hi hj hs ht w00 ++ (cC cy hc ac wc ++ (cC cy hi ai wi ++ (cC cy hj aj wj ++ (cS hs w00 ++ cT ht w00))))) H _ := hW
  refine lv_astore_n (lv' := [(1, .ref hh), (0, .ref b)]) hC.x hC.b dL_law_7 rfl hl (by decide) rfl (fun ls hl => ?_)
  refine hc_new hC hW 4 [.null, .null, .null, .null, .null, .null, .null, .int 0, .null, .null, .null, .null, .int 0, .null, .null, .null, .int 0, .int 0, .int 0, .int 0, .int 0, .int 0, .int 0] inX4 tyX4 tyX4_ok q_3 q_4 q_5 rfl (fun j hj => by exact (match j, hj with | 0, _ => rfl | 1, _ => rfl | 2, _ => rfl | 3, _ => rfl | 4, _ => rfl | 5, _ => rfl | 6, _ => rfl | 7, _ => rfl | 8, _ => rfl | 9, _ => rfl | 10, _ => rfl | 11, _ => rfl | 12, _ => rfl | 13, _ => rfl | 14, _ => rfl | 15, _ => rfl | 16, _ => rfl | 17, _ => rfl | 18, _ => rfl | 19, _ => rfl | 20, _ => rfl | 21, _ => rfl | 22, _ => rfl | n + 23, h => absurd h (by omega))) (Nat.le_of_ble_eq_true rfl) (Nat.le_of_ble_eq_true rfl) dL_law_8 (fun hm H hW => ?_)
  refine W.widen (k := 46) (n := 833) (Nat.le_of_ble_eq_true rfl) (Nat.le_of_ble_eq_true rfl) ?_
  refine lv_dup hC.x hC.b dL_law_11 rfl ?_
  refine hc_goN hC hW (hc_rI hC (c_X4_init l D cy cz t1 t2 hm) (hc_preS hC hW [45] rfl rfl) q_87 q_88 q_5 q_89 rfl hdi_X4_init ⟨rfl, rfl⟩ ⟨Nat.le_of_ble_eq_true rfl, Nat.le_of_ble_eq_true rfl⟩ hl.1 rfl (Nat.le_of_ble_eq_true rfl) dL_law_12 ⟨Nat.le_of_ble_eq_true rfl, Nat.le_of_ble_eq_true rfl⟩) [45] [0, 1, 2, 3, 4, 5, 6, 7, 8, 9, 10, 11, 12, 13, 14, 15, 16, 17, 18, 19, 20, 21, 22, 23, 24, 25, 26, 27, 28, 29, 30, 31, 32, 33, 34, 35, 36, 37, 38, 39, 40, 41, 42, 43, 44] (cH hh hc hi hj hs ht w00 ++ (cC cy hc ac wc ++ (cC cy hi ai wi ++ (cC cy hj aj wj ++ (cS hs w00 ++ cT ht w00))))) rfl rfl (by decide) (by decide) (fun am H locs _ hW => ?_)
  refine W.widen (k := 60) (n := 1638) (Nat.le_of_ble_eq_true rfl) (Nat.le_of_ble_eq_true rfl) ?_
  have hW : Wo D A s (cH hh hc hi hj hs ht w00 ++ (cC cy hc ac wc ++ (cC cy hi ai wi ++ (cC cy hj aj wj ++ (cS hs w00 ++ (cT ht w00 ++ cM cy cz hm am wm0)))))) H _ := hW
  refine lv_astore_n (lv' := [(2, .ref hm), (1, .ref hh), (0, .ref b)]) hC.x hC.b dL_law_15 rfl hl (by decide) rfl (fun ls hl => ?_)
  refine lv_iconst (v := 0) hC.x hC.b dL_law_16 (by decide) ?_
  refine lv_istore_n (lv' := [(3, .int 0), (2, .ref hm), (1, .ref hh), (0, .ref b)]) hC.x hC.b dL_law_17 rfl hl (by decide) rfl (fun ls hl => ?_)
  obtain ⟨n9, hq⟩ := hq
  exact lpf_use (G := (fun (u : Int32 × Wd × Wd × Wd × Wd × Wd × Wd × Wd) => ∀ (H : Heap) (locs : List Loc) (ls : Array Slot), Wo D A s (cH hh hc hi hj hs ht u.2.1 ++ (cC cy hc ac u.2.2.1 ++ (cC cy hi ai u.2.2.2.1 ++ (cC cy hj aj u.2.2.2.2.1 ++ (cS hs u.2.2.2.2.2.1 ++ (cT ht u.2.2.2.2.2.2.1 ++ cM cy cz hm am u.2.2.2.2.2.2.2)))))) H locs → lv_has ls 4 [(0, .ref b), (1, .ref hh), (2, .ref hm), (3, .int u.1)] → W p l e room_1 s m #[Value.ref b] below meth c H locs 60 1638 (lw_Z below #[Value.ref b] s) (F0 m 18 ls []))) (fun K hK u hq H locs ls hW hl => B_L_law_18 hh hc hi hj hs ht ac ai aj hm am b L xs hX K hK hC u.1 u.2.1 u.2.2.1 u.2.2.2.1 u.2.2.2.2.1 u.2.2.2.2.2.1 u.2.2.2.2.2.2.1 u.2.2.2.2.2.2.2 hq hW hl) n9 _ hq _ _ _ hW (lv_sub hl [3, 2, 1, 0] rfl)
