/-! THE CLAIM OUT OF ONE WALK OF THE LAW'S BODY. Your part is whole_start (and what it stands on); all else here is the same for every law, but numbers. -/
def R_law : String := "HingeCardsLaw"
def lw_P (b : Addr) (xs : List Int32) (args : Array Value) (s : State) : Prop := args = #[.ref b] ∧ s.IntsAt b xs ∧ xs.length ≤ 2048 ∧ (Jvm.Cond.and given_1 narrow_1).before args s = true
def lw_Q (_ : Array Value) (s : State) (o : Outcome) (t : State) : Prop := o = .returned (some (.int 1)) ∧ Framed s o t [] 60 1638
def lw_Z (below : List Frame) (a : Array Value) (s : State) : State → Prop := fun t => ∃ o, t.status = .running ∧ Ended t below o ∧ lw_Q a s o t
/-- the law's own end, with 1 on the stack, nothing written that was there before, its room as the claim has it -/
theorem lw_ret {p : Program} {l : Launch} {e : Env} {s : State} {m : MethodId} {below : List Frame} {meth : Method} {c : Code} {b : Nat} (hx : p.tables.exec = Jvm.exec) (hb : c.code = code) (hr : meth.sig.returnType = ret) (hlocks : meth.locks = false) {pc : Nat} {H : Heap} {ls : Array Slot} (hdg : decode code pc = .ok (.ireturn, 1)) : W p l e room_1 s m #[Value.ref b] below meth c H [] 60 1638 (lw_Z below #[Value.ref b] s) (F0 m pc ls [.int 1]) := by
  intro T hT X
  obtain ⟨fs, hret, hrun, hended, hW, hframe⟩ := X.leave (v := some (.int 1)) (hlocks := hlocks) (fun h => by rw [hr] at h; cases h)
  have hmeth' : T.vm.method? m = some meth := X.method'
  refine ⟨T.setFrames fs, ?_, .returned (some (.int 1)), hrun, hended, rfl, ⟨_, rfl⟩, hW, hframe⟩
  jvm_step X.here [X.here.top, hx, hb, hdg, hmeth', hr, ret, narrow_b1]
  (try refine ⟨rfl, ?_⟩); (try refine ⟨rfl, ?_⟩)
  first | (intro acts; rw [hret _ acts rfl rfl rfl]) | rw [hret _ _ rfl rfl rfl]
  exact Steps.refl _
/-- what holds at the law's entry: the machine, the code, the tables' words (any of lw_tbl by 'hts w (by decide +kernel)'), the script of L ints xs at the cell b, what the Statement gives of the start (any of its parts by flat_of_before) -/
def lw_At (p : Program) (s : State) (m : MethodId) (meth : Method) (c : Code) (b L : Nat) (xs : Nat → Int32) : Prop :=
  p.tables.exec = Jvm.exec ∧ c.code = code ∧ meth.sig.returnType = ret ∧ c.maxLocals = 4 ∧ s.vm.findClass R_law = some m.cls ∧ (∀ w ∈ lw_tbl, w.before #[Value.ref b] s = true) ∧ va_X b L xs s s.heap ∧ b < s.heap.size ∧ meth.locks = false ∧ (Jvm.Cond.and given_1 narrow_1).before #[Value.ref b] s = true
def LwX (b L : Nat) (xs : Nat → Int32) (s : State) (A : Nat → Prop) : Prop := va_X b L xs s s.heap ∧ b < s.heap.size ∧ ¬ A b ∧ (∀ q, A q → s.heap.size ≤ q)
def k_L_law_570 (K18 : (Int32 × Wd × Wd × Wd × Wd × Wd × Wd × Wd) → Prop) (L : Nat) (xs : Nat → Int32) (x3 : Int32) (wh : Wd) (wc : Wd) (wi : Wd) (wj : Wd) (ws : Wd) (wt : Wd) (wm : Wd) : Prop :=
 (K18 ((x3 + 4), wh, wc, wi, wj, ws, wt, wm))
set_option maxHeartbeats 4000000 in
set_option maxRecDepth 100000 in
theorem B_L_law_570 {l : Launch} {p : Program} {e : Env} {s : State} {m : MethodId} {below : List Frame} {meth : Method} {c : Code} {A : Nat → Prop} {D : va_G} {cy cz : ClassId} {t1 t2 : Nat} (hh : Nat) (hc : Nat) (hi : Nat) (hj : Nat) (hs : Nat) (ht : Nat) (ac : Nat → Nat) (ai : Nat → Nat) (aj : Nat → Nat) (hm : Nat) (am : Nat → Nat) (b L : Nat) (xs : Nat → Int32) (hX : LwX b L xs s A) (K18 : (Int32 × Wd × Wd × Wd × Wd × Wd × Wd × Wd) → Prop) (hK18 : ∀ b9 : Int32 × Wd × Wd × Wd × Wd × Wd × Wd × Wd, K18 b9 → ∀ (H : Heap) (locs : List Loc) (ls : Array Slot), Wo D A s (cH hh hc hi hj hs ht b9.2.1 ++ (cC cy hc ac b9.2.2.1 ++ (cC cy hi ai b9.2.2.2.1 ++ (cC cy hj aj b9.2.2.2.2.1 ++ (cS hs b9.2.2.2.2.2.1 ++ (cT ht b9.2.2.2.2.2.2.1 ++ (cM cy cz hm am b9.2.2.2.2.2.2.2))))))) H locs → lv_has ls 4 [(0, .ref b), (1, .ref hh), (2, .ref hm), (3, .int b9.1)] → W p l e room_1 s m #[Value.ref b] below meth c H locs 60 1638 (lw_Z below #[Value.ref b] s) (F0 m 18 ls [])) (hC : Cx D cy cz t1 t2 p s m #[Value.ref b] meth c cL_law 4 ret RL A) (x3 : Int32) (wh : Wd) (wc : Wd) (wi : Wd) (wj : Wd) (ws : Wd) (wt : Wd) (wm : Wd) {H : Heap} {locs : List Loc} {ls : Array Slot} (hq : k_L_law_570 K18 L xs x3 wh wc wi wj ws wt wm) (hW : Wo D A s (cH hh hc hi hj hs ht wh ++ (cC cy hc ac wc ++ (cC cy hi ai wi ++ (cC cy hj aj wj ++ (cS hs ws ++ (cT ht wt ++ (cM cy cz hm am wm))))))) H locs) (hl : lv_has ls 4 [(0, .ref b), (1, .ref hh), (2, .ref hm), (3, .int x3)]) : W p l e room_1 s m #[Value.ref b] below meth c H locs 60 1638 (lw_Z below #[Value.ref b] s) (F0 m 570 ls []) := by
  unfold k_L_law_570 at hq
  refine lv_iinc (v := (x3 + 4)) (lv' := [(3, .int (x3 + 4)), (0, .ref b), (1, .ref hh), (2, .ref hm)]) hC.x hC.b dL_law_570 hl (k := 3) rfl rfl (by decide) rfl (fun ls hl => ?_)
  refine lv_goto (tgt := 18) hC.x hC.b dL_law_573 (by decide) ?_
  exact hK18 ((x3 + 4), wh, wc, wi, wj, ws, wt, wm) hq _ _ _ hW (lv_sub hl [1, 2, 3, 0] rfl)
def k_L_law_547 (K18 : (Int32 × Wd × Wd × Wd × Wd × Wd × Wd × Wd) → Prop) (L : Nat) (xs : Nat → Int32) (x3 : Int32) (wh : Wd) (wc : Wd) (wi : Wd) (wj : Wd) (ws : Wd) (wt : Wd) (wm : Wd) : Prop :=
 (vp_in (x3 + 1) L ∧ (k_X3_count (xs ((x3 + 1)).toNatClampNeg) wh wc (fun r553 wh553 wc553 => (vp_in (x3 + 1) L ∧ (k_X4_count (xs ((x3 + 1)).toNatClampNeg) wm (fun r562 wm562 => ((r553 = r562 → (k_L_law_570 K18 L xs x3 wh553 wc553 wi wj ws wt wm562)) ∧
 (¬ r553 = r562 → ((0 : Int32) = 1)))))))))
set_option maxHeartbeats 4000000 in
set_option maxRecDepth 100000 in
theorem B_L_law_547 {l : Launch} {p : Program} {e : Env} {s : State} {m : MethodId} {below : List Frame} {meth : Method} {c : Code} {A : Nat → Prop} {D : va_G} {cy cz : ClassId} {t1 t2 : Nat} (hh : Nat) (hc : Nat) (hi : Nat) (hj : Nat) (hs : Nat) (ht : Nat) (ac : Nat → Nat) (ai : Nat → Nat) (aj : Nat → Nat) (hm : Nat) (am : Nat → Nat) (b L : Nat) (xs : Nat → Int32) (hX : LwX b L xs s A) (K18 : (Int32 × Wd × Wd × Wd × Wd × Wd × Wd × Wd) → Prop) (hK18 : ∀ b9 : Int32 × Wd × Wd × Wd × Wd × Wd × Wd × Wd, K18 b9 → ∀ (H : Heap) (locs : List Loc) (ls : Array Slot), Wo D A s (cH hh hc hi hj hs ht b9.2.1 ++ (cC cy hc ac b9.2.2.1 ++ (cC cy hi ai b9.2.2.2.1 ++ (cC cy hj aj b9.2.2.2.2.1 ++ (cS hs b9.2.2.2.2.2.1 ++ (cT ht b9.2.2.2.2.2.2.1 ++ (cM cy cz hm am b9.2.2.2.2.2.2.2))))))) H locs → lv_has ls 4 [(0, .ref b), (1, .ref hh), (2, .ref hm), (3, .int b9.1)] → W p l e room_1 s m #[Value.ref b] below meth c H locs 60 1638 (lw_Z below #[Value.ref b] s) (F0 m 18 ls [])) (hC : Cx D cy cz t1 t2 p s m #[Value.ref b] meth c cL_law 4 ret RL A) (x3 : Int32) (wh : Wd) (wc : Wd) (wi : Wd) (wj : Wd) (ws : Wd) (wt : Wd) (wm : Wd) {H : Heap} {locs : List Loc} {ls : Array Slot} (hq : k_L_law_547 K18 L xs x3 wh wc wi wj ws wt wm) (hW : Wo D A s (cH hh hc hi hj hs ht wh ++ (cC cy hc ac wc ++ (cC cy hi ai wi ++ (cC cy hj aj wj ++ (cS hs ws ++ (cT ht wt ++ (cM cy cz hm am wm))))))) H locs) (hl : lv_has ls 4 [(0, .ref b), (1, .ref hh), (2, .ref hm), (3, .int x3)]) : W p l e room_1 s m #[Value.ref b] below meth c H locs 60 1638 (lw_Z below #[Value.ref b] s) (F0 m 547 ls []) := by
  unfold k_L_law_547 at hq
  refine lv_aload_n hC.x hC.b dL_law_547 rfl (lv_at hl 1 rfl) ?_
  refine lv_aload_n hC.x hC.b dL_law_548 rfl (lv_at hl 0 rfl) ?_
  refine lv_iload_n hC.x hC.b dL_law_549 rfl (lv_at hl 3 rfl) ?_
  refine lv_iconst (v := 1) hC.x hC.b dL_law_550 (by decide) ?_
  refine lv_iadd hC.x hC.b dL_law_551 ?_
  refine va_sld hC.x hC.b hX.1 hX.2.1 hX.2.2.1 hW.2.2 hq.1 dL_law_552 ?_
  replace hq := hq.2
  refine hc_goI hC hW (hc_rV hC (c_X3_count l D cy cz t1 t2 hh hc hi hj hs ht ac (xs ((x3 + 1)).toNatClampNeg) wh wc _ hq) (hc_preS hC hW [0, 1, 2, 3, 4, 5, 6, 7, 8, 9, 10, 11, 12, 13, 14] rfl rfl) hW 0 3 rfl rfl q_546 q_547 q_548 q_2 q_549 hd_X3_count ⟨rfl, rfl⟩ ⟨Nat.le_of_ble_eq_true rfl, Nat.le_of_ble_eq_true rfl⟩ rfl hl.1 rfl (Nat.le_of_ble_eq_true rfl) dL_law_553 ⟨Nat.le_of_ble_eq_true rfl, Nat.le_of_ble_eq_true rfl⟩) [0, 1, 2, 3, 4, 5, 6, 7, 8, 9, 10, 11, 12, 13, 14] [15, 16, 17, 18, 19, 20, 21, 22, 23, 24, 25, 26, 27, 28, 29, 30, 31, 32, 33, 34, 35, 36, 37, 38, 39, 40, 41, 42, 43, 44, 45, 46, 47, 48, 49, 50, 51, 52, 53, 54, 55, 56, 57, 58, 59] [45, 46, 47, 48, 49, 50, 51, 52, 53, 54, 55, 56, 57, 58, 59, 0, 1, 2, 3, 4, 5, 6, 7, 8, 9, 10, 11, 12, 13, 14, 15, 16, 17, 18, 19, 20, 21, 22, 23, 24, 25, 26, 27, 28, 29, 30, 31, 32, 33, 34, 35, 36, 37, 38, 39, 40, 41, 42, 43, 44] (cC cy hi ai wi ++ (cC cy hj aj wj ++ (cS hs ws ++ (cT ht wt ++ (cM cy cz hm am wm))))) (fun u => (cH hh hc hi hj hs ht u.1 ++ (cC cy hc ac u.2 ++ (cC cy hi ai wi ++ (cC cy hj aj wj ++ (cS hs ws ++ (cT ht wt ++ (cM cy cz hm am wm)))))))) rfl rfl (by decide) (by decide) (by decide) (fun u => rfl) (fun r553 u9 H locs hq hW => ?_)
  obtain ⟨wh553, wc553⟩ := u9
  try dsimp only at hq hW
  refine lv_aload_n hC.x hC.b dL_law_556 rfl (lv_at hl 2 rfl) ?_
  refine lv_aload_n hC.x hC.b dL_law_557 rfl (lv_at hl 0 rfl) ?_
  refine lv_iload_n hC.x hC.b dL_law_558 rfl (lv_at hl 3 rfl) ?_
  refine lv_iconst (v := 1) hC.x hC.b dL_law_559 (by decide) ?_
  refine lv_iadd hC.x hC.b dL_law_560 ?_
  refine va_sld hC.x hC.b hX.1 hX.2.1 hX.2.2.1 hW.2.2 hq.1 dL_law_561 ?_
  replace hq := hq.2
  refine hc_goI hC hW (hc_rV hC (c_X4_count l D cy cz t1 t2 hm am (xs ((x3 + 1)).toNatClampNeg) wm _ hq) (hc_preS hC hW [45, 46, 47, 48, 49, 50, 51, 52, 53, 54, 55, 56, 57, 58, 59] rfl rfl) hW 45 4 rfl rfl q_566 q_567 q_568 q_5 q_569 hd_X4_count ⟨rfl, rfl⟩ ⟨Nat.le_of_ble_eq_true rfl, Nat.le_of_ble_eq_true rfl⟩ rfl hl.1 rfl (Nat.le_of_ble_eq_true rfl) dL_law_562 ⟨Nat.le_of_ble_eq_true rfl, Nat.le_of_ble_eq_true rfl⟩) [45, 46, 47, 48, 49, 50, 51, 52, 53, 54, 55, 56, 57, 58, 59] [0, 1, 2, 3, 4, 5, 6, 7, 8, 9, 10, 11, 12, 13, 14, 15, 16, 17, 18, 19, 20, 21, 22, 23, 24, 25, 26, 27, 28, 29, 30, 31, 32, 33, 34, 35, 36, 37, 38, 39, 40, 41, 42, 43, 44] [0, 1, 2, 3, 4, 5, 6, 7, 8, 9, 10, 11, 12, 13, 14, 15, 16, 17, 18, 19, 20, 21, 22, 23, 24, 25, 26, 27, 28, 29, 30, 31, 32, 33, 34, 35, 36, 37, 38, 39, 40, 41, 42, 43, 44, 45, 46, 47, 48, 49, 50, 51, 52, 53, 54, 55, 56, 57, 58, 59] (cH hh hc hi hj hs ht wh553 ++ (cC cy hc ac wc553 ++ (cC cy hi ai wi ++ (cC cy hj aj wj ++ (cS hs ws ++ (cT ht wt)))))) (fun u => (cH hh hc hi hj hs ht wh553 ++ (cC cy hc ac wc553 ++ (cC cy hi ai wi ++ (cC cy hj aj wj ++ (cS hs ws ++ (cT ht wt ++ (cM cy cz hm am u)))))))) rfl rfl (by decide) (by decide) (by decide) (fun u => rfl) (fun r562 u9 H locs hq hW => ?_)
  obtain ⟨wm562, rfl⟩ : ∃ z, z = u9 := ⟨_, rfl⟩
  try dsimp only at hq hW
  refine lv_icmp_eq (tgt := 570) hC.x hC.b dL_law_565 (by decide) (fun hc9 => ?_) (fun hc9 => ?_)
  · replace hq := hq.1 hc9
    exact B_L_law_570 hh hc hi hj hs ht ac ai aj hm am b L xs hX K18 hK18 hC x3 wh553 wc553 wi wj ws wt wm562 hq hW (lv_sub hl [0, 1, 2, 3] rfl)
  · replace hq := hq.2 hc9
    refine lv_iconst (v := 0) hC.x hC.b dL_law_568 (by decide) ?_
    exact absurd hq (by decide)
def k_L_law_135 (K18 : (Int32 × Wd × Wd × Wd × Wd × Wd × Wd × Wd) → Prop) (L : Nat) (xs : Nat → Int32) (x3 : Int32) (wh : Wd) (wc : Wd) (wi : Wd) (wj : Wd) (ws : Wd) (wt : Wd) (wm : Wd) : Prop :=
 (vp_in (x3 + 1) L ∧ (vp_in (x3 + 2) L ∧ (vp_in (x3 + 3) L ∧ (k_X3_put (xs ((x3 + 1)).toNatClampNeg) (xs ((x3 + 2)).toNatClampNeg) (xs ((x3 + 3)).toNatClampNeg) wh wc (fun r151 wh151 wc151 => (vp_in (x3 + 1) L ∧ (vp_in (x3 + 2) L ∧ (vp_in (x3 + 3) L ∧ (k_X4_put (xs ((x3 + 1)).toNatClampNeg) (xs ((x3 + 2)).toNatClampNeg) (xs ((x3 + 3)).toNatClampNeg) wm (fun r170 wm170 => ((r151 = r170 → (k_L_law_570 K18 L xs x3 wh151 wc151 wi wj ws wt wm170)) ∧
 (¬ r151 = r170 → ((0 : Int32) = 1)))))))))))))
set_option maxHeartbeats 4000000 in
set_option maxRecDepth 100000 in
theorem B_L_law_135 {l : Launch} {p : Program} {e : Env} {s : State} {m : MethodId} {below : List Frame} {meth : Method} {c : Code} {A : Nat → Prop} {D : va_G} {cy cz : ClassId} {t1 t2 : Nat} (hh : Nat) (hc : Nat) (hi : Nat) (hj : Nat) (hs : Nat) (ht : Nat) (ac : Nat → Nat) (ai : Nat → Nat) (aj : Nat → Nat) (hm : Nat) (am : Nat → Nat) (b L : Nat) (xs : Nat → Int32) (hX : LwX b L xs s A) (K18 : (Int32 × Wd × Wd × Wd × Wd × Wd × Wd × Wd) → Prop) (hK18 : ∀ b9 : Int32 × Wd × Wd × Wd × Wd × Wd × Wd × Wd, K18 b9 → ∀ (H : Heap) (locs : List Loc) (ls : Array Slot), Wo D A s (cH hh hc hi hj hs ht b9.2.1 ++ (cC cy hc ac b9.2.2.1 ++ (cC cy hi ai b9.2.2.2.1 ++ (cC cy hj aj b9.2.2.2.2.1 ++ (cS hs b9.2.2.2.2.2.1 ++ (cT ht b9.2.2.2.2.2.2.1 ++ (cM cy cz hm am b9.2.2.2.2.2.2.2))))))) H locs → lv_has ls 4 [(0, .ref b), (1, .ref hh), (2, .ref hm), (3, .int b9.1)] → W p l e room_1 s m #[Value.ref b] below meth c H locs 60 1638 (lw_Z below #[Value.ref b] s) (F0 m 18 ls [])) (hC : Cx D cy cz t1 t2 p s m #[Value.ref b] meth c cL_law 4 ret RL A) (x3 : Int32) (wh : Wd) (wc : Wd) (wi : Wd) (wj : Wd) (ws : Wd) (wt : Wd) (wm : Wd) {H : Heap} {locs : List Loc} {ls : Array Slot} (hq : k_L_law_135 K18 L xs x3 wh wc wi wj ws wt wm) (hW : Wo D A s (cH hh hc hi hj hs ht wh ++ (cC cy hc ac wc ++ (cC cy hi ai wi ++ (cC cy hj aj wj ++ (cS hs ws ++ (cT ht wt ++ (cM cy cz hm am wm))))))) H locs) (hl : lv_has ls 4 [(0, .ref b), (1, .ref hh), (2, .ref hm), (3, .int x3)]) : W p l e room_1 s m #[Value.ref b] below meth c H locs 60 1638 (lw_Z below #[Value.ref b] s) (F0 m 135 ls []) := by
  unfold k_L_law_135 at hq
  refine lv_aload_n hC.x hC.b dL_law_135 rfl (lv_at hl 1 rfl) ?_
  refine lv_aload_n hC.x hC.b dL_law_136 rfl (lv_at hl 0 rfl) ?_
  refine lv_iload_n hC.x hC.b dL_law_137 rfl (lv_at hl 3 rfl) ?_
  refine lv_iconst (v := 1) hC.x hC.b dL_law_138 (by decide) ?_
  refine lv_iadd hC.x hC.b dL_law_139 ?_
  refine va_sld hC.x hC.b hX.1 hX.2.1 hX.2.2.1 hW.2.2 hq.1 dL_law_140 ?_
  replace hq := hq.2
  refine lv_aload_n hC.x hC.b dL_law_141 rfl (lv_at hl 0 rfl) ?_
  refine lv_iload_n hC.x hC.b dL_law_142 rfl (lv_at hl 3 rfl) ?_
  refine lv_iconst (v := 2) hC.x hC.b dL_law_143 (by decide) ?_
  refine lv_iadd hC.x hC.b dL_law_144 ?_
  refine va_sld hC.x hC.b hX.1 hX.2.1 hX.2.2.1 hW.2.2 hq.1 dL_law_145 ?_
  replace hq := hq.2
  refine lv_aload_n hC.x hC.b dL_law_146 rfl (lv_at hl 0 rfl) ?_
  refine lv_iload_n hC.x hC.b dL_law_147 rfl (lv_at hl 3 rfl) ?_
  refine lv_iconst (v := 3) hC.x hC.b dL_law_148 (by decide) ?_
  refine lv_iadd hC.x hC.b dL_law_149 ?_
  refine va_sld hC.x hC.b hX.1 hX.2.1 hX.2.2.1 hW.2.2 hq.1 dL_law_150 ?_
  replace hq := hq.2
  refine hc_goI hC hW (hc_rV hC (c_X3_put l D cy cz t1 t2 hh hc hi hj hs ht ac (xs ((x3 + 1)).toNatClampNeg) (xs ((x3 + 2)).toNatClampNeg) (xs ((x3 + 3)).toNatClampNeg) wh wc _ hq) (hc_preS hC hW [0, 1, 2, 3, 4, 5, 6, 7, 8, 9, 10, 11, 12, 13, 14] rfl rfl) hW 0 3 rfl rfl q_123 q_124 q_125 q_2 q_126 hd_X3_put ⟨rfl, rfl⟩ ⟨Nat.le_of_ble_eq_true rfl, Nat.le_of_ble_eq_true rfl⟩ rfl hl.1 rfl (Nat.le_of_ble_eq_true rfl) dL_law_151 ⟨Nat.le_of_ble_eq_true rfl, Nat.le_of_ble_eq_true rfl⟩) [0, 1, 2, 3, 4, 5, 6, 7, 8, 9, 10, 11, 12, 13, 14] [15, 16, 17, 18, 19, 20, 21, 22, 23, 24, 25, 26, 27, 28, 29, 30, 31, 32, 33, 34, 35, 36, 37, 38, 39, 40, 41, 42, 43, 44, 45, 46, 47, 48, 49, 50, 51, 52, 53, 54, 55, 56, 57, 58, 59] [45, 46, 47, 48, 49, 50, 51, 52, 53, 54, 55, 56, 57, 58, 59, 0, 1, 2, 3, 4, 5, 6, 7, 8, 9, 10, 11, 12, 13, 14, 15, 16, 17, 18, 19, 20, 21, 22, 23, 24, 25, 26, 27, 28, 29, 30, 31, 32, 33, 34, 35, 36, 37, 38, 39, 40, 41, 42, 43, 44] (cC cy hi ai wi ++ (cC cy hj aj wj ++ (cS hs ws ++ (cT ht wt ++ (cM cy cz hm am wm))))) (fun u => (cH hh hc hi hj hs ht u.1 ++ (cC cy hc ac u.2 ++ (cC cy hi ai wi ++ (cC cy hj aj wj ++ (cS hs ws ++ (cT ht wt ++ (cM cy cz hm am wm)))))))) rfl rfl (by decide) (by decide) (by decide) (fun u => rfl) (fun r151 u9 H locs hq hW => ?_)
  obtain ⟨wh151, wc151⟩ := u9
  try dsimp only at hq hW
  refine lv_aload_n hC.x hC.b dL_law_154 rfl (lv_at hl 2 rfl) ?_
  refine lv_aload_n hC.x hC.b dL_law_155 rfl (lv_at hl 0 rfl) ?_
  refine lv_iload_n hC.x hC.b dL_law_156 rfl (lv_at hl 3 rfl) ?_
  refine lv_iconst (v := 1) hC.x hC.b dL_law_157 (by decide) ?_
  refine lv_iadd hC.x hC.b dL_law_158 ?_
  refine va_sld hC.x hC.b hX.1 hX.2.1 hX.2.2.1 hW.2.2 hq.1 dL_law_159 ?_
  replace hq := hq.2
  refine lv_aload_n hC.x hC.b dL_law_160 rfl (lv_at hl 0 rfl) ?_
  refine lv_iload_n hC.x hC.b dL_law_161 rfl (lv_at hl 3 rfl) ?_
  refine lv_iconst (v := 2) hC.x hC.b dL_law_162 (by decide) ?_
  refine lv_iadd hC.x hC.b dL_law_163 ?_
  refine va_sld hC.x hC.b hX.1 hX.2.1 hX.2.2.1 hW.2.2 hq.1 dL_law_164 ?_
  replace hq := hq.2
  refine lv_aload_n hC.x hC.b dL_law_165 rfl (lv_at hl 0 rfl) ?_
  refine lv_iload_n hC.x hC.b dL_law_166 rfl (lv_at hl 3 rfl) ?_
  refine lv_iconst (v := 3) hC.x hC.b dL_law_167 (by decide) ?_
  refine lv_iadd hC.x hC.b dL_law_168 ?_
  refine va_sld hC.x hC.b hX.1 hX.2.1 hX.2.2.1 hW.2.2 hq.1 dL_law_169 ?_
  replace hq := hq.2
  refine hc_goI hC hW (hc_rV hC (c_X4_put l D cy cz t1 t2 hm am (xs ((x3 + 1)).toNatClampNeg) (xs ((x3 + 2)).toNatClampNeg) (xs ((x3 + 3)).toNatClampNeg) wm _ hq) (hc_preS hC hW [45, 46, 47, 48, 49, 50, 51, 52, 53, 54, 55, 56, 57, 58, 59] rfl rfl) hW 45 4 rfl rfl q_177 q_178 q_179 q_5 q_180 hd_X4_put ⟨rfl, rfl⟩ ⟨Nat.le_of_ble_eq_true rfl, Nat.le_of_ble_eq_true rfl⟩ rfl hl.1 rfl (Nat.le_of_ble_eq_true rfl) dL_law_170 ⟨Nat.le_of_ble_eq_true rfl, Nat.le_of_ble_eq_true rfl⟩) [45, 46, 47, 48, 49, 50, 51, 52, 53, 54, 55, 56, 57, 58, 59] [0, 1, 2, 3, 4, 5, 6, 7, 8, 9, 10, 11, 12, 13, 14, 15, 16, 17, 18, 19, 20, 21, 22, 23, 24, 25, 26, 27, 28, 29, 30, 31, 32, 33, 34, 35, 36, 37, 38, 39, 40, 41, 42, 43, 44] [0, 1, 2, 3, 4, 5, 6, 7, 8, 9, 10, 11, 12, 13, 14, 15, 16, 17, 18, 19, 20, 21, 22, 23, 24, 25, 26, 27, 28, 29, 30, 31, 32, 33, 34, 35, 36, 37, 38, 39, 40, 41, 42, 43, 44, 45, 46, 47, 48, 49, 50, 51, 52, 53, 54, 55, 56, 57, 58, 59] (cH hh hc hi hj hs ht wh151 ++ (cC cy hc ac wc151 ++ (cC cy hi ai wi ++ (cC cy hj aj wj ++ (cS hs ws ++ (cT ht wt)))))) (fun u => (cH hh hc hi hj hs ht wh151 ++ (cC cy hc ac wc151 ++ (cC cy hi ai wi ++ (cC cy hj aj wj ++ (cS hs ws ++ (cT ht wt ++ (cM cy cz hm am u)))))))) rfl rfl (by decide) (by decide) (by decide) (fun u => rfl) (fun r170 u9 H locs hq hW => ?_)
  obtain ⟨wm170, rfl⟩ : ∃ z, z = u9 := ⟨_, rfl⟩
  try dsimp only at hq hW
  refine lv_icmp_eq (tgt := 570) hC.x hC.b dL_law_173 (by decide) (fun hc9 => ?_) (fun hc9 => ?_)
  · replace hq := hq.1 hc9
    exact B_L_law_570 hh hc hi hj hs ht ac ai aj hm am b L xs hX K18 hK18 hC x3 wh151 wc151 wi wj ws wt wm170 hq hW (lv_sub hl [0, 1, 2, 3] rfl)
  · replace hq := hq.2 hc9
    refine lv_iconst (v := 0) hC.x hC.b dL_law_176 (by decide) ?_
    exact absurd hq (by decide)
def k_L_law_415 (K18 : (Int32 × Wd × Wd × Wd × Wd × Wd × Wd × Wd) → Prop) (L : Nat) (xs : Nat → Int32) (x3 : Int32) (wh : Wd) (wc : Wd) (wi : Wd) (wj : Wd) (ws : Wd) (wt : Wd) (wm : Wd) : Prop :=
 (vp_in (x3 + 1) L ∧ (vp_in (x3 + 2) L ∧ (vp_in (x3 + 3) L ∧ (k_X3_above (xs ((x3 + 1)).toNatClampNeg) (xs ((x3 + 2)).toNatClampNeg) (xs ((x3 + 3)).toNatClampNeg) wh wc wt (fun r431 wh431 wc431 wt431 => (vp_in (x3 + 1) L ∧ (vp_in (x3 + 2) L ∧ (vp_in (x3 + 3) L ∧ (k_X4_above (xs ((x3 + 1)).toNatClampNeg) (xs ((x3 + 2)).toNatClampNeg) (xs ((x3 + 3)).toNatClampNeg) wm (fun r450 wm450 => ((r431 = r450 → (k_L_law_570 K18 L xs x3 wh431 wc431 wi wj ws wt431 wm450)) ∧
 (¬ r431 = r450 → ((0 : Int32) = 1)))))))))))))
set_option maxHeartbeats 4000000 in
set_option maxRecDepth 100000 in
theorem B_L_law_415 {l : Launch} {p : Program} {e : Env} {s : State} {m : MethodId} {below : List Frame} {meth : Method} {c : Code} {A : Nat → Prop} {D : va_G} {cy cz : ClassId} {t1 t2 : Nat} (hh : Nat) (hc : Nat) (hi : Nat) (hj : Nat) (hs : Nat) (ht : Nat) (ac : Nat → Nat) (ai : Nat → Nat) (aj : Nat → Nat) (hm : Nat) (am : Nat → Nat) (b L : Nat) (xs : Nat → Int32) (hX : LwX b L xs s A) (K18 : (Int32 × Wd × Wd × Wd × Wd × Wd × Wd × Wd) → Prop) (hK18 : ∀ b9 : Int32 × Wd × Wd × Wd × Wd × Wd × Wd × Wd, K18 b9 → ∀ (H : Heap) (locs : List Loc) (ls : Array Slot), Wo D A s (cH hh hc hi hj hs ht b9.2.1 ++ (cC cy hc ac b9.2.2.1 ++ (cC cy hi ai b9.2.2.2.1 ++ (cC cy hj aj b9.2.2.2.2.1 ++ (cS hs b9.2.2.2.2.2.1 ++ (cT ht b9.2.2.2.2.2.2.1 ++ (cM cy cz hm am b9.2.2.2.2.2.2.2))))))) H locs → lv_has ls 4 [(0, .ref b), (1, .ref hh), (2, .ref hm), (3, .int b9.1)] → W p l e room_1 s m #[Value.ref b] below meth c H locs 60 1638 (lw_Z below #[Value.ref b] s) (F0 m 18 ls [])) (hC : Cx D cy cz t1 t2 p s m #[Value.ref b] meth c cL_law 4 ret RL A) (x3 : Int32) (wh : Wd) (wc : Wd) (wi : Wd) (wj : Wd) (ws : Wd) (wt : Wd) (wm : Wd) {H : Heap} {locs : List Loc} {ls : Array Slot} (hq : k_L_law_415 K18 L xs x3 wh wc wi wj ws wt wm) (hW : Wo D A s (cH hh hc hi hj hs ht wh ++ (cC cy hc ac wc ++ (cC cy hi ai wi ++ (cC cy hj aj wj ++ (cS hs ws ++ (cT ht wt ++ (cM cy cz hm am wm))))))) H locs) (hl : lv_has ls 4 [(0, .ref b), (1, .ref hh), (2, .ref hm), (3, .int x3)]) : W p l e room_1 s m #[Value.ref b] below meth c H locs 60 1638 (lw_Z below #[Value.ref b] s) (F0 m 415 ls []) := by
  unfold k_L_law_415 at hq
  refine lv_aload_n hC.x hC.b dL_law_415 rfl (lv_at hl 1 rfl) ?_
  refine lv_aload_n hC.x hC.b dL_law_416 rfl (lv_at hl 0 rfl) ?_
  refine lv_iload_n hC.x hC.b dL_law_417 rfl (lv_at hl 3 rfl) ?_
  refine lv_iconst (v := 1) hC.x hC.b dL_law_418 (by decide) ?_
  refine lv_iadd hC.x hC.b dL_law_419 ?_
  refine va_sld hC.x hC.b hX.1 hX.2.1 hX.2.2.1 hW.2.2 hq.1 dL_law_420 ?_
  replace hq := hq.2
  refine lv_aload_n hC.x hC.b dL_law_421 rfl (lv_at hl 0 rfl) ?_
  refine lv_iload_n hC.x hC.b dL_law_422 rfl (lv_at hl 3 rfl) ?_
  refine lv_iconst (v := 2) hC.x hC.b dL_law_423 (by decide) ?_
  refine lv_iadd hC.x hC.b dL_law_424 ?_
  refine va_sld hC.x hC.b hX.1 hX.2.1 hX.2.2.1 hW.2.2 hq.1 dL_law_425 ?_
  replace hq := hq.2
  refine lv_aload_n hC.x hC.b dL_law_426 rfl (lv_at hl 0 rfl) ?_
  refine lv_iload_n hC.x hC.b dL_law_427 rfl (lv_at hl 3 rfl) ?_
  refine lv_iconst (v := 3) hC.x hC.b dL_law_428 (by decide) ?_
  refine lv_iadd hC.x hC.b dL_law_429 ?_
  refine va_sld hC.x hC.b hX.1 hX.2.1 hX.2.2.1 hW.2.2 hq.1 dL_law_430 ?_
  replace hq := hq.2
  refine hc_goI hC hW (hc_rV hC (c_X3_above l D cy cz t1 t2 hh hc hi hj hs ht ac (xs ((x3 + 1)).toNatClampNeg) (xs ((x3 + 2)).toNatClampNeg) (xs ((x3 + 3)).toNatClampNeg) wh wc wt _ hq) (hc_preS hC hW [0, 1, 2, 3, 4, 5, 6, 7, 8, 9, 10, 11, 12, 13, 14, 44] rfl rfl) hW 0 3 rfl rfl q_450 q_451 q_452 q_2 q_453 hd_X3_above ⟨rfl, rfl⟩ ⟨Nat.le_of_ble_eq_true rfl, Nat.le_of_ble_eq_true rfl⟩ rfl hl.1 rfl (Nat.le_of_ble_eq_true rfl) dL_law_431 ⟨Nat.le_of_ble_eq_true rfl, Nat.le_of_ble_eq_true rfl⟩) [0, 1, 2, 3, 4, 5, 6, 7, 8, 9, 10, 11, 12, 13, 14, 44] [15, 16, 17, 18, 19, 20, 21, 22, 23, 24, 25, 26, 27, 28, 29, 30, 31, 32, 33, 34, 35, 36, 37, 38, 39, 40, 41, 42, 43, 45, 46, 47, 48, 49, 50, 51, 52, 53, 54, 55, 56, 57, 58, 59] [44, 45, 46, 47, 48, 49, 50, 51, 52, 53, 54, 55, 56, 57, 58, 0, 1, 2, 3, 4, 5, 6, 7, 8, 9, 10, 11, 12, 13, 14, 15, 16, 17, 18, 19, 20, 21, 22, 23, 24, 25, 26, 27, 28, 59, 29, 30, 31, 32, 33, 34, 35, 36, 37, 38, 39, 40, 41, 42, 43] (cC cy hi ai wi ++ (cC cy hj aj wj ++ (cS hs ws ++ (cM cy cz hm am wm)))) (fun u => (cH hh hc hi hj hs ht u.1 ++ (cC cy hc ac u.2.1 ++ (cC cy hi ai wi ++ (cC cy hj aj wj ++ (cS hs ws ++ (cT ht u.2.2 ++ (cM cy cz hm am wm)))))))) rfl rfl (by decide) (by decide) (by decide) (fun u => rfl) (fun r431 u9 H locs hq hW => ?_)
  obtain ⟨wh431, wc431, wt431⟩ := u9
  try dsimp only at hq hW
  refine lv_aload_n hC.x hC.b dL_law_434 rfl (lv_at hl 2 rfl) ?_
  refine lv_aload_n hC.x hC.b dL_law_435 rfl (lv_at hl 0 rfl) ?_
  refine lv_iload_n hC.x hC.b dL_law_436 rfl (lv_at hl 3 rfl) ?_
  refine lv_iconst (v := 1) hC.x hC.b dL_law_437 (by decide) ?_
  refine lv_iadd hC.x hC.b dL_law_438 ?_
  refine va_sld hC.x hC.b hX.1 hX.2.1 hX.2.2.1 hW.2.2 hq.1 dL_law_439 ?_
  replace hq := hq.2
  refine lv_aload_n hC.x hC.b dL_law_440 rfl (lv_at hl 0 rfl) ?_
  refine lv_iload_n hC.x hC.b dL_law_441 rfl (lv_at hl 3 rfl) ?_
  refine lv_iconst (v := 2) hC.x hC.b dL_law_442 (by decide) ?_
  refine lv_iadd hC.x hC.b dL_law_443 ?_
  refine va_sld hC.x hC.b hX.1 hX.2.1 hX.2.2.1 hW.2.2 hq.1 dL_law_444 ?_
  replace hq := hq.2
  refine lv_aload_n hC.x hC.b dL_law_445 rfl (lv_at hl 0 rfl) ?_
  refine lv_iload_n hC.x hC.b dL_law_446 rfl (lv_at hl 3 rfl) ?_
  refine lv_iconst (v := 3) hC.x hC.b dL_law_447 (by decide) ?_
  refine lv_iadd hC.x hC.b dL_law_448 ?_
  refine va_sld hC.x hC.b hX.1 hX.2.1 hX.2.2.1 hW.2.2 hq.1 dL_law_449 ?_
  replace hq := hq.2
  refine hc_goI hC hW (hc_rV hC (c_X4_above l D cy cz t1 t2 hm am (xs ((x3 + 1)).toNatClampNeg) (xs ((x3 + 2)).toNatClampNeg) (xs ((x3 + 3)).toNatClampNeg) wm _ hq) (hc_preS hC hW [45, 46, 47, 48, 49, 50, 51, 52, 53, 54, 55, 56, 57, 58, 59] rfl rfl) hW 45 4 rfl rfl q_493 q_494 q_495 q_5 q_496 hd_X4_above ⟨rfl, rfl⟩ ⟨Nat.le_of_ble_eq_true rfl, Nat.le_of_ble_eq_true rfl⟩ rfl hl.1 rfl (Nat.le_of_ble_eq_true rfl) dL_law_450 ⟨Nat.le_of_ble_eq_true rfl, Nat.le_of_ble_eq_true rfl⟩) [45, 46, 47, 48, 49, 50, 51, 52, 53, 54, 55, 56, 57, 58, 59] [0, 1, 2, 3, 4, 5, 6, 7, 8, 9, 10, 11, 12, 13, 14, 15, 16, 17, 18, 19, 20, 21, 22, 23, 24, 25, 26, 27, 28, 29, 30, 31, 32, 33, 34, 35, 36, 37, 38, 39, 40, 41, 42, 43, 44] [0, 1, 2, 3, 4, 5, 6, 7, 8, 9, 10, 11, 12, 13, 14, 15, 16, 17, 18, 19, 20, 21, 22, 23, 24, 25, 26, 27, 28, 29, 30, 31, 32, 33, 34, 35, 36, 37, 38, 39, 40, 41, 42, 43, 44, 45, 46, 47, 48, 49, 50, 51, 52, 53, 54, 55, 56, 57, 58, 59] (cH hh hc hi hj hs ht wh431 ++ (cC cy hc ac wc431 ++ (cC cy hi ai wi ++ (cC cy hj aj wj ++ (cS hs ws ++ (cT ht wt431)))))) (fun u => (cH hh hc hi hj hs ht wh431 ++ (cC cy hc ac wc431 ++ (cC cy hi ai wi ++ (cC cy hj aj wj ++ (cS hs ws ++ (cT ht wt431 ++ (cM cy cz hm am u)))))))) rfl rfl (by decide) (by decide) (by decide) (fun u => rfl) (fun r450 u9 H locs hq hW => ?_)
  obtain ⟨wm450, rfl⟩ : ∃ z, z = u9 := ⟨_, rfl⟩
  try dsimp only at hq hW
  refine lv_icmp_eq (tgt := 570) hC.x hC.b dL_law_453 (by decide) (fun hc9 => ?_) (fun hc9 => ?_)
  · replace hq := hq.1 hc9
    exact B_L_law_570 hh hc hi hj hs ht ac ai aj hm am b L xs hX K18 hK18 hC x3 wh431 wc431 wi wj ws wt431 wm450 hq hW (lv_sub hl [0, 1, 2, 3] rfl)
  · replace hq := hq.2 hc9
    refine lv_iconst (v := 0) hC.x hC.b dL_law_456 (by decide) ?_
    exact absurd hq (by decide)
def k_L_law_234 (K18 : (Int32 × Wd × Wd × Wd × Wd × Wd × Wd × Wd) → Prop) (L : Nat) (xs : Nat → Int32) (x3 : Int32) (wh : Wd) (wc : Wd) (wi : Wd) (wj : Wd) (ws : Wd) (wt : Wd) (wm : Wd) : Prop :=
 (vp_in (x3 + 1) L ∧ (vp_in (x3 + 2) L ∧ (k_X3_corner (xs ((x3 + 1)).toNatClampNeg) (xs ((x3 + 2)).toNatClampNeg) wh wc (fun r245 wh245 wc245 => (vp_in (x3 + 1) L ∧ (vp_in (x3 + 2) L ∧ (k_X4_corner (xs ((x3 + 1)).toNatClampNeg) (xs ((x3 + 2)).toNatClampNeg) wm (fun r259 wm259 => ((r245 = r259 → (k_L_law_570 K18 L xs x3 wh245 wc245 wi wj ws wt wm259)) ∧
 (¬ r245 = r259 → ((0 : Int32) = 1)))))))))))
set_option maxHeartbeats 4000000 in
set_option maxRecDepth 100000 in
theorem B_L_law_234 {l : Launch} {p : Program} {e : Env} {s : State} {m : MethodId} {below : List Frame} {meth : Method} {c : Code} {A : Nat → Prop} {D : va_G} {cy cz : ClassId} {t1 t2 : Nat} (hh : Nat) (hc : Nat) (hi : Nat) (hj : Nat) (hs : Nat) (ht : Nat) (ac : Nat → Nat) (ai : Nat → Nat) (aj : Nat → Nat) (hm : Nat) (am : Nat → Nat) (b L : Nat) (xs : Nat → Int32) (hX : LwX b L xs s A) (K18 : (Int32 × Wd × Wd × Wd × Wd × Wd × Wd × Wd) → Prop) (hK18 : ∀ b9 : Int32 × Wd × Wd × Wd × Wd × Wd × Wd × Wd, K18 b9 → ∀ (H : Heap) (locs : List Loc) (ls : Array Slot), Wo D A s (cH hh hc hi hj hs ht b9.2.1 ++ (cC cy hc ac b9.2.2.1 ++ (cC cy hi ai b9.2.2.2.1 ++ (cC cy hj aj b9.2.2.2.2.1 ++ (cS hs b9.2.2.2.2.2.1 ++ (cT ht b9.2.2.2.2.2.2.1 ++ (cM cy cz hm am b9.2.2.2.2.2.2.2))))))) H locs → lv_has ls 4 [(0, .ref b), (1, .ref hh), (2, .ref hm), (3, .int b9.1)] → W p l e room_1 s m #[Value.ref b] below meth c H locs 60 1638 (lw_Z below #[Value.ref b] s) (F0 m 18 ls [])) (hC : Cx D cy cz t1 t2 p s m #[Value.ref b] meth c cL_law 4 ret RL A) (x3 : Int32) (wh : Wd) (wc : Wd) (wi : Wd) (wj : Wd) (ws : Wd) (wt : Wd) (wm : Wd) {H : Heap} {locs : List Loc} {ls : Array Slot} (hq : k_L_law_234 K18 L xs x3 wh wc wi wj ws wt wm) (hW : Wo D A s (cH hh hc hi hj hs ht wh ++ (cC cy hc ac wc ++ (cC cy hi ai wi ++ (cC cy hj aj wj ++ (cS hs ws ++ (cT ht wt ++ (cM cy cz hm am wm))))))) H locs) (hl : lv_has ls 4 [(0, .ref b), (1, .ref hh), (2, .ref hm), (3, .int x3)]) : W p l e room_1 s m #[Value.ref b] below meth c H locs 60 1638 (lw_Z below #[Value.ref b] s) (F0 m 234 ls []) := by
  unfold k_L_law_234 at hq
  refine lv_aload_n hC.x hC.b dL_law_234 rfl (lv_at hl 1 rfl) ?_
  refine lv_aload_n hC.x hC.b dL_law_235 rfl (lv_at hl 0 rfl) ?_
  refine lv_iload_n hC.x hC.b dL_law_236 rfl (lv_at hl 3 rfl) ?_
  refine lv_iconst (v := 1) hC.x hC.b dL_law_237 (by decide) ?_
  refine lv_iadd hC.x hC.b dL_law_238 ?_
  refine va_sld hC.x hC.b hX.1 hX.2.1 hX.2.2.1 hW.2.2 hq.1 dL_law_239 ?_
  replace hq := hq.2
  refine lv_aload_n hC.x hC.b dL_law_240 rfl (lv_at hl 0 rfl) ?_
  refine lv_iload_n hC.x hC.b dL_law_241 rfl (lv_at hl 3 rfl) ?_
  refine lv_iconst (v := 2) hC.x hC.b dL_law_242 (by decide) ?_
  refine lv_iadd hC.x hC.b dL_law_243 ?_
  refine va_sld hC.x hC.b hX.1 hX.2.1 hX.2.2.1 hW.2.2 hq.1 dL_law_244 ?_
  replace hq := hq.2
  refine hc_goI hC hW (hc_rV hC (c_X3_corner l D cy cz t1 t2 hh hc hi hj hs ht ac (xs ((x3 + 1)).toNatClampNeg) (xs ((x3 + 2)).toNatClampNeg) wh wc _ hq) (hc_preS hC hW [0, 1, 2, 3, 4, 5, 6, 7, 8, 9, 10, 11, 12, 13, 14] rfl rfl) hW 0 3 rfl rfl q_253 q_254 q_255 q_2 q_256 hd_X3_corner ⟨rfl, rfl⟩ ⟨Nat.le_of_ble_eq_true rfl, Nat.le_of_ble_eq_true rfl⟩ rfl hl.1 rfl (Nat.le_of_ble_eq_true rfl) dL_law_245 ⟨Nat.le_of_ble_eq_true rfl, Nat.le_of_ble_eq_true rfl⟩) [0, 1, 2, 3, 4, 5, 6, 7, 8, 9, 10, 11, 12, 13, 14] [15, 16, 17, 18, 19, 20, 21, 22, 23, 24, 25, 26, 27, 28, 29, 30, 31, 32, 33, 34, 35, 36, 37, 38, 39, 40, 41, 42, 43, 44, 45, 46, 47, 48, 49, 50, 51, 52, 53, 54, 55, 56, 57, 58, 59] [45, 46, 47, 48, 49, 50, 51, 52, 53, 54, 55, 56, 57, 58, 59, 0, 1, 2, 3, 4, 5, 6, 7, 8, 9, 10, 11, 12, 13, 14, 15, 16, 17, 18, 19, 20, 21, 22, 23, 24, 25, 26, 27, 28, 29, 30, 31, 32, 33, 34, 35, 36, 37, 38, 39, 40, 41, 42, 43, 44] (cC cy hi ai wi ++ (cC cy hj aj wj ++ (cS hs ws ++ (cT ht wt ++ (cM cy cz hm am wm))))) (fun u => (cH hh hc hi hj hs ht u.1 ++ (cC cy hc ac u.2 ++ (cC cy hi ai wi ++ (cC cy hj aj wj ++ (cS hs ws ++ (cT ht wt ++ (cM cy cz hm am wm)))))))) rfl rfl (by decide) (by decide) (by decide) (fun u => rfl) (fun r245 u9 H locs hq hW => ?_)
  obtain ⟨wh245, wc245⟩ := u9
  try dsimp only at hq hW
  refine lv_aload_n hC.x hC.b dL_law_248 rfl (lv_at hl 2 rfl) ?_
  refine lv_aload_n hC.x hC.b dL_law_249 rfl (lv_at hl 0 rfl) ?_
  refine lv_iload_n hC.x hC.b dL_law_250 rfl (lv_at hl 3 rfl) ?_
  refine lv_iconst (v := 1) hC.x hC.b dL_law_251 (by decide) ?_
  refine lv_iadd hC.x hC.b dL_law_252 ?_
  refine va_sld hC.x hC.b hX.1 hX.2.1 hX.2.2.1 hW.2.2 hq.1 dL_law_253 ?_
  replace hq := hq.2
  refine lv_aload_n hC.x hC.b dL_law_254 rfl (lv_at hl 0 rfl) ?_
  refine lv_iload_n hC.x hC.b dL_law_255 rfl (lv_at hl 3 rfl) ?_
  refine lv_iconst (v := 2) hC.x hC.b dL_law_256 (by decide) ?_
  refine lv_iadd hC.x hC.b dL_law_257 ?_
  refine va_sld hC.x hC.b hX.1 hX.2.1 hX.2.2.1 hW.2.2 hq.1 dL_law_258 ?_
  replace hq := hq.2
  refine hc_goI hC hW (hc_rV hC (c_X4_corner l D cy cz t1 t2 hm am (xs ((x3 + 1)).toNatClampNeg) (xs ((x3 + 2)).toNatClampNeg) wm _ hq) (hc_preS hC hW [45, 46, 47, 48, 49, 50, 51, 52, 53, 54, 55, 56, 57, 58, 59] rfl rfl) hW 45 4 rfl rfl q_262 q_263 q_264 q_5 q_265 hd_X4_corner ⟨rfl, rfl⟩ ⟨Nat.le_of_ble_eq_true rfl, Nat.le_of_ble_eq_true rfl⟩ rfl hl.1 rfl (Nat.le_of_ble_eq_true rfl) dL_law_259 ⟨Nat.le_of_ble_eq_true rfl, Nat.le_of_ble_eq_true rfl⟩) [45, 46, 47, 48, 49, 50, 51, 52, 53, 54, 55, 56, 57, 58, 59] [0, 1, 2, 3, 4, 5, 6, 7, 8, 9, 10, 11, 12, 13, 14, 15, 16, 17, 18, 19, 20, 21, 22, 23, 24, 25, 26, 27, 28, 29, 30, 31, 32, 33, 34, 35, 36, 37, 38, 39, 40, 41, 42, 43, 44] [0, 1, 2, 3, 4, 5, 6, 7, 8, 9, 10, 11, 12, 13, 14, 15, 16, 17, 18, 19, 20, 21, 22, 23, 24, 25, 26, 27, 28, 29, 30, 31, 32, 33, 34, 35, 36, 37, 38, 39, 40, 41, 42, 43, 44, 45, 46, 47, 48, 49, 50, 51, 52, 53, 54, 55, 56, 57, 58, 59] (cH hh hc hi hj hs ht wh245 ++ (cC cy hc ac wc245 ++ (cC cy hi ai wi ++ (cC cy hj aj wj ++ (cS hs ws ++ (cT ht wt)))))) (fun u => (cH hh hc hi hj hs ht wh245 ++ (cC cy hc ac wc245 ++ (cC cy hi ai wi ++ (cC cy hj aj wj ++ (cS hs ws ++ (cT ht wt ++ (cM cy cz hm am u)))))))) rfl rfl (by decide) (by decide) (by decide) (fun u => rfl) (fun r259 u9 H locs hq hW => ?_)
  obtain ⟨wm259, rfl⟩ : ∃ z, z = u9 := ⟨_, rfl⟩
  try dsimp only at hq hW
  refine lv_icmp_eq (tgt := 570) hC.x hC.b dL_law_262 (by decide) (fun hc9 => ?_) (fun hc9 => ?_)
  · replace hq := hq.1 hc9
    exact B_L_law_570 hh hc hi hj hs ht ac ai aj hm am b L xs hX K18 hK18 hC x3 wh245 wc245 wi wj ws wt wm259 hq hW (lv_sub hl [0, 1, 2, 3] rfl)
  · replace hq := hq.2 hc9
    refine lv_iconst (v := 0) hC.x hC.b dL_law_265 (by decide) ?_
    exact absurd hq (by decide)
def k_L_law_267 (K18 : (Int32 × Wd × Wd × Wd × Wd × Wd × Wd × Wd) → Prop) (L : Nat) (xs : Nat → Int32) (x3 : Int32) (wh : Wd) (wc : Wd) (wi : Wd) (wj : Wd) (ws : Wd) (wt : Wd) (wm : Wd) : Prop :=
 (vp_in (x3 + 1) L ∧ (vp_in (x3 + 2) L ∧ (k_X3_face (xs ((x3 + 1)).toNatClampNeg) (xs ((x3 + 2)).toNatClampNeg) wh wc (fun r278 wh278 wc278 => (vp_in (x3 + 1) L ∧ (vp_in (x3 + 2) L ∧ (k_X4_face (xs ((x3 + 1)).toNatClampNeg) (xs ((x3 + 2)).toNatClampNeg) wm (fun r292 wm292 => ((r278 = r292 → (k_L_law_570 K18 L xs x3 wh278 wc278 wi wj ws wt wm292)) ∧
 (¬ r278 = r292 → ((0 : Int32) = 1)))))))))))
set_option maxHeartbeats 4000000 in
set_option maxRecDepth 100000 in
theorem B_L_law_267 {l : Launch} {p : Program} {e : Env} {s : State} {m : MethodId} {below : List Frame} {meth : Method} {c : Code} {A : Nat → Prop} {D : va_G} {cy cz : ClassId} {t1 t2 : Nat} (hh : Nat) (hc : Nat) (hi : Nat) (hj : Nat) (hs : Nat) (ht : Nat) (ac : Nat → Nat) (ai : Nat → Nat) (aj : Nat → Nat) (hm : Nat) (am : Nat → Nat) (b L : Nat) (xs : Nat → Int32) (hX : LwX b L xs s A) (K18 : (Int32 × Wd × Wd × Wd × Wd × Wd × Wd × Wd) → Prop) (hK18 : ∀ b9 : Int32 × Wd × Wd × Wd × Wd × Wd × Wd × Wd, K18 b9 → ∀ (H : Heap) (locs : List Loc) (ls : Array Slot), Wo D A s (cH hh hc hi hj hs ht b9.2.1 ++ (cC cy hc ac b9.2.2.1 ++ (cC cy hi ai b9.2.2.2.1 ++ (cC cy hj aj b9.2.2.2.2.1 ++ (cS hs b9.2.2.2.2.2.1 ++ (cT ht b9.2.2.2.2.2.2.1 ++ (cM cy cz hm am b9.2.2.2.2.2.2.2))))))) H locs → lv_has ls 4 [(0, .ref b), (1, .ref hh), (2, .ref hm), (3, .int b9.1)] → W p l e room_1 s m #[Value.ref b] below meth c H locs 60 1638 (lw_Z below #[Value.ref b] s) (F0 m 18 ls [])) (hC : Cx D cy cz t1 t2 p s m #[Value.ref b] meth c cL_law 4 ret RL A) (x3 : Int32) (wh : Wd) (wc : Wd) (wi : Wd) (wj : Wd) (ws : Wd) (wt : Wd) (wm : Wd) {H : Heap} {locs : List Loc} {ls : Array Slot} (hq : k_L_law_267 K18 L xs x3 wh wc wi wj ws wt wm) (hW : Wo D A s (cH hh hc hi hj hs ht wh ++ (cC cy hc ac wc ++ (cC cy hi ai wi ++ (cC cy hj aj wj ++ (cS hs ws ++ (cT ht wt ++ (cM cy cz hm am wm))))))) H locs) (hl : lv_has ls 4 [(0, .ref b), (1, .ref hh), (2, .ref hm), (3, .int x3)]) : W p l e room_1 s m #[Value.ref b] below meth c H locs 60 1638 (lw_Z below #[Value.ref b] s) (F0 m 267 ls []) := by
  unfold k_L_law_267 at hq
  refine lv_aload_n hC.x hC.b dL_law_267 rfl (lv_at hl 1 rfl) ?_
  refine lv_aload_n hC.x hC.b dL_law_268 rfl (lv_at hl 0 rfl) ?_
  refine lv_iload_n hC.x hC.b dL_law_269 rfl (lv_at hl 3 rfl) ?_
  refine lv_iconst (v := 1) hC.x hC.b dL_law_270 (by decide) ?_
  refine lv_iadd hC.x hC.b dL_law_271 ?_
  refine va_sld hC.x hC.b hX.1 hX.2.1 hX.2.2.1 hW.2.2 hq.1 dL_law_272 ?_
  replace hq := hq.2
  refine lv_aload_n hC.x hC.b dL_law_273 rfl (lv_at hl 0 rfl) ?_
  refine lv_iload_n hC.x hC.b dL_law_274 rfl (lv_at hl 3 rfl) ?_
  refine lv_iconst (v := 2) hC.x hC.b dL_law_275 (by decide) ?_
  refine lv_iadd hC.x hC.b dL_law_276 ?_
  refine va_sld hC.x hC.b hX.1 hX.2.1 hX.2.2.1 hW.2.2 hq.1 dL_law_277 ?_
  replace hq := hq.2
  refine hc_goI hC hW (hc_rV hC (c_X3_face l D cy cz t1 t2 hh hc hi hj hs ht ac (xs ((x3 + 1)).toNatClampNeg) (xs ((x3 + 2)).toNatClampNeg) wh wc _ hq) (hc_preS hC hW [0, 1, 2, 3, 4, 5, 6, 7, 8, 9, 10, 11, 12, 13, 14] rfl rfl) hW 0 3 rfl rfl q_266 q_267 q_268 q_2 q_269 hd_X3_face ⟨rfl, rfl⟩ ⟨Nat.le_of_ble_eq_true rfl, Nat.le_of_ble_eq_true rfl⟩ rfl hl.1 rfl (Nat.le_of_ble_eq_true rfl) dL_law_278 ⟨Nat.le_of_ble_eq_true rfl, Nat.le_of_ble_eq_true rfl⟩) [0, 1, 2, 3, 4, 5, 6, 7, 8, 9, 10, 11, 12, 13, 14] [15, 16, 17, 18, 19, 20, 21, 22, 23, 24, 25, 26, 27, 28, 29, 30, 31, 32, 33, 34, 35, 36, 37, 38, 39, 40, 41, 42, 43, 44, 45, 46, 47, 48, 49, 50, 51, 52, 53, 54, 55, 56, 57, 58, 59] [45, 46, 47, 48, 49, 50, 51, 52, 53, 54, 55, 56, 57, 58, 59, 0, 1, 2, 3, 4, 5, 6, 7, 8, 9, 10, 11, 12, 13, 14, 15, 16, 17, 18, 19, 20, 21, 22, 23, 24, 25, 26, 27, 28, 29, 30, 31, 32, 33, 34, 35, 36, 37, 38, 39, 40, 41, 42, 43, 44] (cC cy hi ai wi ++ (cC cy hj aj wj ++ (cS hs ws ++ (cT ht wt ++ (cM cy cz hm am wm))))) (fun u => (cH hh hc hi hj hs ht u.1 ++ (cC cy hc ac u.2 ++ (cC cy hi ai wi ++ (cC cy hj aj wj ++ (cS hs ws ++ (cT ht wt ++ (cM cy cz hm am wm)))))))) rfl rfl (by decide) (by decide) (by decide) (fun u => rfl) (fun r278 u9 H locs hq hW => ?_)
  obtain ⟨wh278, wc278⟩ := u9
  try dsimp only at hq hW
  refine lv_aload_n hC.x hC.b dL_law_281 rfl (lv_at hl 2 rfl) ?_
  refine lv_aload_n hC.x hC.b dL_law_282 rfl (lv_at hl 0 rfl) ?_
  refine lv_iload_n hC.x hC.b dL_law_283 rfl (lv_at hl 3 rfl) ?_
  refine lv_iconst (v := 1) hC.x hC.b dL_law_284 (by decide) ?_
  refine lv_iadd hC.x hC.b dL_law_285 ?_
  refine va_sld hC.x hC.b hX.1 hX.2.1 hX.2.2.1 hW.2.2 hq.1 dL_law_286 ?_
  replace hq := hq.2
  refine lv_aload_n hC.x hC.b dL_law_287 rfl (lv_at hl 0 rfl) ?_
  refine lv_iload_n hC.x hC.b dL_law_288 rfl (lv_at hl 3 rfl) ?_
  refine lv_iconst (v := 2) hC.x hC.b dL_law_289 (by decide) ?_
  refine lv_iadd hC.x hC.b dL_law_290 ?_
  refine va_sld hC.x hC.b hX.1 hX.2.1 hX.2.2.1 hW.2.2 hq.1 dL_law_291 ?_
  replace hq := hq.2
  refine hc_goI hC hW (hc_rV hC (c_X4_face l D cy cz t1 t2 hm am (xs ((x3 + 1)).toNatClampNeg) (xs ((x3 + 2)).toNatClampNeg) wm _ hq) (hc_preS hC hW [45, 46, 47, 48, 49, 50, 51, 52, 53, 54, 55, 56, 57, 58, 59] rfl rfl) hW 45 4 rfl rfl q_285 q_286 q_287 q_5 q_288 hd_X4_face ⟨rfl, rfl⟩ ⟨Nat.le_of_ble_eq_true rfl, Nat.le_of_ble_eq_true rfl⟩ rfl hl.1 rfl (Nat.le_of_ble_eq_true rfl) dL_law_292 ⟨Nat.le_of_ble_eq_true rfl, Nat.le_of_ble_eq_true rfl⟩) [45, 46, 47, 48, 49, 50, 51, 52, 53, 54, 55, 56, 57, 58, 59] [0, 1, 2, 3, 4, 5, 6, 7, 8, 9, 10, 11, 12, 13, 14, 15, 16, 17, 18, 19, 20, 21, 22, 23, 24, 25, 26, 27, 28, 29, 30, 31, 32, 33, 34, 35, 36, 37, 38, 39, 40, 41, 42, 43, 44] [0, 1, 2, 3, 4, 5, 6, 7, 8, 9, 10, 11, 12, 13, 14, 15, 16, 17, 18, 19, 20, 21, 22, 23, 24, 25, 26, 27, 28, 29, 30, 31, 32, 33, 34, 35, 36, 37, 38, 39, 40, 41, 42, 43, 44, 45, 46, 47, 48, 49, 50, 51, 52, 53, 54, 55, 56, 57, 58, 59] (cH hh hc hi hj hs ht wh278 ++ (cC cy hc ac wc278 ++ (cC cy hi ai wi ++ (cC cy hj aj wj ++ (cS hs ws ++ (cT ht wt)))))) (fun u => (cH hh hc hi hj hs ht wh278 ++ (cC cy hc ac wc278 ++ (cC cy hi ai wi ++ (cC cy hj aj wj ++ (cS hs ws ++ (cT ht wt ++ (cM cy cz hm am u)))))))) rfl rfl (by decide) (by decide) (by decide) (fun u => rfl) (fun r292 u9 H locs hq hW => ?_)
  obtain ⟨wm292, rfl⟩ : ∃ z, z = u9 := ⟨_, rfl⟩
  try dsimp only at hq hW
  refine lv_icmp_eq (tgt := 570) hC.x hC.b dL_law_295 (by decide) (fun hc9 => ?_) (fun hc9 => ?_)
  · replace hq := hq.1 hc9
    exact B_L_law_570 hh hc hi hj hs ht ac ai aj hm am b L xs hX K18 hK18 hC x3 wh278 wc278 wi wj ws wt wm292 hq hW (lv_sub hl [0, 1, 2, 3] rfl)
  · replace hq := hq.2 hc9
    refine lv_iconst (v := 0) hC.x hC.b dL_law_298 (by decide) ?_
    exact absurd hq (by decide)
def k_L_law_300 (K18 : (Int32 × Wd × Wd × Wd × Wd × Wd × Wd × Wd) → Prop) (L : Nat) (xs : Nat → Int32) (x3 : Int32) (wh : Wd) (wc : Wd) (wi : Wd) (wj : Wd) (ws : Wd) (wt : Wd) (wm : Wd) : Prop :=
 (vp_in (x3 + 1) L ∧ (vp_in (x3 + 2) L ∧ (k_X3_on (xs ((x3 + 1)).toNatClampNeg) (xs ((x3 + 2)).toNatClampNeg) wh wc (fun r311 wh311 wc311 => (vp_in (x3 + 1) L ∧ (vp_in (x3 + 2) L ∧ (k_X4_on (xs ((x3 + 1)).toNatClampNeg) (xs ((x3 + 2)).toNatClampNeg) wm (fun r325 wm325 => ((r311 = r325 → (k_L_law_570 K18 L xs x3 wh311 wc311 wi wj ws wt wm325)) ∧
 (¬ r311 = r325 → ((0 : Int32) = 1)))))))))))
set_option maxHeartbeats 4000000 in
set_option maxRecDepth 100000 in
theorem B_L_law_300 {l : Launch} {p : Program} {e : Env} {s : State} {m : MethodId} {below : List Frame} {meth : Method} {c : Code} {A : Nat → Prop} {D : va_G} {cy cz : ClassId} {t1 t2 : Nat} (hh : Nat) (hc : Nat) (hi : Nat) (hj : Nat) (hs : Nat) (ht : Nat) (ac : Nat → Nat) (ai : Nat → Nat) (aj : Nat → Nat) (hm : Nat) (am : Nat → Nat) (b L : Nat) (xs : Nat → Int32) (hX : LwX b L xs s A) (K18 : (Int32 × Wd × Wd × Wd × Wd × Wd × Wd × Wd) → Prop) (hK18 : ∀ b9 : Int32 × Wd × Wd × Wd × Wd × Wd × Wd × Wd, K18 b9 → ∀ (H : Heap) (locs : List Loc) (ls : Array Slot), Wo D A s (cH hh hc hi hj hs ht b9.2.1 ++ (cC cy hc ac b9.2.2.1 ++ (cC cy hi ai b9.2.2.2.1 ++ (cC cy hj aj b9.2.2.2.2.1 ++ (cS hs b9.2.2.2.2.2.1 ++ (cT ht b9.2.2.2.2.2.2.1 ++ (cM cy cz hm am b9.2.2.2.2.2.2.2))))))) H locs → lv_has ls 4 [(0, .ref b), (1, .ref hh), (2, .ref hm), (3, .int b9.1)] → W p l e room_1 s m #[Value.ref b] below meth c H locs 60 1638 (lw_Z below #[Value.ref b] s) (F0 m 18 ls [])) (hC : Cx D cy cz t1 t2 p s m #[Value.ref b] meth c cL_law 4 ret RL A) (x3 : Int32) (wh : Wd) (wc : Wd) (wi : Wd) (wj : Wd) (ws : Wd) (wt : Wd) (wm : Wd) {H : Heap} {locs : List Loc} {ls : Array Slot} (hq : k_L_law_300 K18 L xs x3 wh wc wi wj ws wt wm) (hW : Wo D A s (cH hh hc hi hj hs ht wh ++ (cC cy hc ac wc ++ (cC cy hi ai wi ++ (cC cy hj aj wj ++ (cS hs ws ++ (cT ht wt ++ (cM cy cz hm am wm))))))) H locs) (hl : lv_has ls 4 [(0, .ref b), (1, .ref hh), (2, .ref hm), (3, .int x3)]) : W p l e room_1 s m #[Value.ref b] below meth c H locs 60 1638 (lw_Z below #[Value.ref b] s) (F0 m 300 ls []) := by
  unfold k_L_law_300 at hq
  refine lv_aload_n hC.x hC.b dL_law_300 rfl (lv_at hl 1 rfl) ?_
  refine lv_aload_n hC.x hC.b dL_law_301 rfl (lv_at hl 0 rfl) ?_
  refine lv_iload_n hC.x hC.b dL_law_302 rfl (lv_at hl 3 rfl) ?_
  refine lv_iconst (v := 1) hC.x hC.b dL_law_303 (by decide) ?_
  refine lv_iadd hC.x hC.b dL_law_304 ?_
  refine va_sld hC.x hC.b hX.1 hX.2.1 hX.2.2.1 hW.2.2 hq.1 dL_law_305 ?_
  replace hq := hq.2
  refine lv_aload_n hC.x hC.b dL_law_306 rfl (lv_at hl 0 rfl) ?_
  refine lv_iload_n hC.x hC.b dL_law_307 rfl (lv_at hl 3 rfl) ?_
  refine lv_iconst (v := 2) hC.x hC.b dL_law_308 (by decide) ?_
  refine lv_iadd hC.x hC.b dL_law_309 ?_
  refine va_sld hC.x hC.b hX.1 hX.2.1 hX.2.2.1 hW.2.2 hq.1 dL_law_310 ?_
  replace hq := hq.2
  refine hc_goI hC hW (hc_rV hC (c_X3_on l D cy cz t1 t2 hh hc hi hj hs ht ac (xs ((x3 + 1)).toNatClampNeg) (xs ((x3 + 2)).toNatClampNeg) wh wc _ hq) (hc_preS hC hW [0, 1, 2, 3, 4, 5, 6, 7, 8, 9, 10, 11, 12, 13, 14] rfl rfl) hW 0 3 rfl rfl q_293 q_294 q_295 q_2 q_296 hd_X3_on ⟨rfl, rfl⟩ ⟨Nat.le_of_ble_eq_true rfl, Nat.le_of_ble_eq_true rfl⟩ rfl hl.1 rfl (Nat.le_of_ble_eq_true rfl) dL_law_311 ⟨Nat.le_of_ble_eq_true rfl, Nat.le_of_ble_eq_true rfl⟩) [0, 1, 2, 3, 4, 5, 6, 7, 8, 9, 10, 11, 12, 13, 14] [15, 16, 17, 18, 19, 20, 21, 22, 23, 24, 25, 26, 27, 28, 29, 30, 31, 32, 33, 34, 35, 36, 37, 38, 39, 40, 41, 42, 43, 44, 45, 46, 47, 48, 49, 50, 51, 52, 53, 54, 55, 56, 57, 58, 59] [45, 46, 47, 48, 49, 50, 51, 52, 53, 54, 55, 56, 57, 58, 59, 0, 1, 2, 3, 4, 5, 6, 7, 8, 9, 10, 11, 12, 13, 14, 15, 16, 17, 18, 19, 20, 21, 22, 23, 24, 25, 26, 27, 28, 29, 30, 31, 32, 33, 34, 35, 36, 37, 38, 39, 40, 41, 42, 43, 44] (cC cy hi ai wi ++ (cC cy hj aj wj ++ (cS hs ws ++ (cT ht wt ++ (cM cy cz hm am wm))))) (fun u => (cH hh hc hi hj hs ht u.1 ++ (cC cy hc ac u.2 ++ (cC cy hi ai wi ++ (cC cy hj aj wj ++ (cS hs ws ++ (cT ht wt ++ (cM cy cz hm am wm)))))))) rfl rfl (by decide) (by decide) (by decide) (fun u => rfl) (fun r311 u9 H locs hq hW => ?_)
  obtain ⟨wh311, wc311⟩ := u9
  try dsimp only at hq hW
  refine lv_aload_n hC.x hC.b dL_law_314 rfl (lv_at hl 2 rfl) ?_
  refine lv_aload_n hC.x hC.b dL_law_315 rfl (lv_at hl 0 rfl) ?_
  refine lv_iload_n hC.x hC.b dL_law_316 rfl (lv_at hl 3 rfl) ?_
  refine lv_iconst (v := 1) hC.x hC.b dL_law_317 (by decide) ?_
  refine lv_iadd hC.x hC.b dL_law_318 ?_
  refine va_sld hC.x hC.b hX.1 hX.2.1 hX.2.2.1 hW.2.2 hq.1 dL_law_319 ?_
  replace hq := hq.2
  refine lv_aload_n hC.x hC.b dL_law_320 rfl (lv_at hl 0 rfl) ?_
  refine lv_iload_n hC.x hC.b dL_law_321 rfl (lv_at hl 3 rfl) ?_
  refine lv_iconst (v := 2) hC.x hC.b dL_law_322 (by decide) ?_
  refine lv_iadd hC.x hC.b dL_law_323 ?_
  refine va_sld hC.x hC.b hX.1 hX.2.1 hX.2.2.1 hW.2.2 hq.1 dL_law_324 ?_
  replace hq := hq.2
  refine hc_goI hC hW (hc_rV hC (c_X4_on l D cy cz t1 t2 hm am (xs ((x3 + 1)).toNatClampNeg) (xs ((x3 + 2)).toNatClampNeg) wm _ hq) (hc_preS hC hW [45, 46, 47, 48, 49, 50, 51, 52, 53, 54, 55, 56, 57, 58, 59] rfl rfl) hW 45 4 rfl rfl q_311 q_312 q_313 q_5 q_314 hd_X4_on ⟨rfl, rfl⟩ ⟨Nat.le_of_ble_eq_true rfl, Nat.le_of_ble_eq_true rfl⟩ rfl hl.1 rfl (Nat.le_of_ble_eq_true rfl) dL_law_325 ⟨Nat.le_of_ble_eq_true rfl, Nat.le_of_ble_eq_true rfl⟩) [45, 46, 47, 48, 49, 50, 51, 52, 53, 54, 55, 56, 57, 58, 59] [0, 1, 2, 3, 4, 5, 6, 7, 8, 9, 10, 11, 12, 13, 14, 15, 16, 17, 18, 19, 20, 21, 22, 23, 24, 25, 26, 27, 28, 29, 30, 31, 32, 33, 34, 35, 36, 37, 38, 39, 40, 41, 42, 43, 44] [0, 1, 2, 3, 4, 5, 6, 7, 8, 9, 10, 11, 12, 13, 14, 15, 16, 17, 18, 19, 20, 21, 22, 23, 24, 25, 26, 27, 28, 29, 30, 31, 32, 33, 34, 35, 36, 37, 38, 39, 40, 41, 42, 43, 44, 45, 46, 47, 48, 49, 50, 51, 52, 53, 54, 55, 56, 57, 58, 59] (cH hh hc hi hj hs ht wh311 ++ (cC cy hc ac wc311 ++ (cC cy hi ai wi ++ (cC cy hj aj wj ++ (cS hs ws ++ (cT ht wt)))))) (fun u => (cH hh hc hi hj hs ht wh311 ++ (cC cy hc ac wc311 ++ (cC cy hi ai wi ++ (cC cy hj aj wj ++ (cS hs ws ++ (cT ht wt ++ (cM cy cz hm am u)))))))) rfl rfl (by decide) (by decide) (by decide) (fun u => rfl) (fun r325 u9 H locs hq hW => ?_)
  obtain ⟨wm325, rfl⟩ : ∃ z, z = u9 := ⟨_, rfl⟩
  try dsimp only at hq hW
  refine lv_icmp_eq (tgt := 570) hC.x hC.b dL_law_328 (by decide) (fun hc9 => ?_) (fun hc9 => ?_)
  · replace hq := hq.1 hc9
    exact B_L_law_570 hh hc hi hj hs ht ac ai aj hm am b L xs hX K18 hK18 hC x3 wh311 wc311 wi wj ws wt wm325 hq hW (lv_sub hl [0, 1, 2, 3] rfl)
  · replace hq := hq.2 hc9
    refine lv_iconst (v := 0) hC.x hC.b dL_law_331 (by decide) ?_
    exact absurd hq (by decide)
def k_L_law_333 (K18 : (Int32 × Wd × Wd × Wd × Wd × Wd × Wd × Wd) → Prop) (L : Nat) (xs : Nat → Int32) (x3 : Int32) (wh : Wd) (wc : Wd) (wi : Wd) (wj : Wd) (ws : Wd) (wt : Wd) (wm : Wd) : Prop :=
 (k_X3_ways wh wc ws (fun r334 wh334 wc334 ws334 => (k_X4_ways wm (fun r338 wm338 => ((r334 = r338 → (k_L_law_570 K18 L xs x3 wh334 wc334 wi wj ws334 wt wm338)) ∧
 (¬ r334 = r338 → ((0 : Int32) = 1)))))))
set_option maxHeartbeats 4000000 in
set_option maxRecDepth 100000 in
theorem B_L_law_333 {l : Launch} {p : Program} {e : Env} {s : State} {m : MethodId} {below : List Frame} {meth : Method} {c : Code} {A : Nat → Prop} {D : va_G} {cy cz : ClassId} {t1 t2 : Nat} (hh : Nat) (hc : Nat) (hi : Nat) (hj : Nat) (hs : Nat) (ht : Nat) (ac : Nat → Nat) (ai : Nat → Nat) (aj : Nat → Nat) (hm : Nat) (am : Nat → Nat) (b L : Nat) (xs : Nat → Int32) (hX : LwX b L xs s A) (K18 : (Int32 × Wd × Wd × Wd × Wd × Wd × Wd × Wd) → Prop) (hK18 : ∀ b9 : Int32 × Wd × Wd × Wd × Wd × Wd × Wd × Wd, K18 b9 → ∀ (H : Heap) (locs : List Loc) (ls : Array Slot), Wo D A s (cH hh hc hi hj hs ht b9.2.1 ++ (cC cy hc ac b9.2.2.1 ++ (cC cy hi ai b9.2.2.2.1 ++ (cC cy hj aj b9.2.2.2.2.1 ++ (cS hs b9.2.2.2.2.2.1 ++ (cT ht b9.2.2.2.2.2.2.1 ++ (cM cy cz hm am b9.2.2.2.2.2.2.2))))))) H locs → lv_has ls 4 [(0, .ref b), (1, .ref hh), (2, .ref hm), (3, .int b9.1)] → W p l e room_1 s m #[Value.ref b] below meth c H locs 60 1638 (lw_Z below #[Value.ref b] s) (F0 m 18 ls [])) (hC : Cx D cy cz t1 t2 p s m #[Value.ref b] meth c cL_law 4 ret RL A) (x3 : Int32) (wh : Wd) (wc : Wd) (wi : Wd) (wj : Wd) (ws : Wd) (wt : Wd) (wm : Wd) {H : Heap} {locs : List Loc} {ls : Array Slot} (hq : k_L_law_333 K18 L xs x3 wh wc wi wj ws wt wm) (hW : Wo D A s (cH hh hc hi hj hs ht wh ++ (cC cy hc ac wc ++ (cC cy hi ai wi ++ (cC cy hj aj wj ++ (cS hs ws ++ (cT ht wt ++ (cM cy cz hm am wm))))))) H locs) (hl : lv_has ls 4 [(0, .ref b), (1, .ref hh), (2, .ref hm), (3, .int x3)]) : W p l e room_1 s m #[Value.ref b] below meth c H locs 60 1638 (lw_Z below #[Value.ref b] s) (F0 m 333 ls []) := by
  unfold k_L_law_333 at hq
  refine lv_aload_n hC.x hC.b dL_law_333 rfl (lv_at hl 1 rfl) ?_
  refine hc_goI hC hW (hc_rV hC (c_X3_ways l D cy cz t1 t2 hh hc hi hj hs ht ac wh wc ws _ hq) (hc_preS hC hW [0, 1, 2, 3, 4, 5, 6, 7, 8, 9, 10, 11, 12, 13, 14, 43] rfl rfl) hW 0 3 rfl rfl q_315 q_316 q_317 q_2 q_318 hd_X3_ways ⟨rfl, rfl⟩ ⟨Nat.le_of_ble_eq_true rfl, Nat.le_of_ble_eq_true rfl⟩ rfl hl.1 rfl (Nat.le_of_ble_eq_true rfl) dL_law_334 ⟨Nat.le_of_ble_eq_true rfl, Nat.le_of_ble_eq_true rfl⟩) [0, 1, 2, 3, 4, 5, 6, 7, 8, 9, 10, 11, 12, 13, 14, 43] [15, 16, 17, 18, 19, 20, 21, 22, 23, 24, 25, 26, 27, 28, 29, 30, 31, 32, 33, 34, 35, 36, 37, 38, 39, 40, 41, 42, 44, 45, 46, 47, 48, 49, 50, 51, 52, 53, 54, 55, 56, 57, 58, 59] [44, 45, 46, 47, 48, 49, 50, 51, 52, 53, 54, 55, 56, 57, 58, 0, 1, 2, 3, 4, 5, 6, 7, 8, 9, 10, 11, 12, 13, 14, 15, 16, 17, 18, 19, 20, 21, 22, 23, 24, 25, 26, 27, 59, 28, 29, 30, 31, 32, 33, 34, 35, 36, 37, 38, 39, 40, 41, 42, 43] (cC cy hi ai wi ++ (cC cy hj aj wj ++ (cT ht wt ++ (cM cy cz hm am wm)))) (fun u => (cH hh hc hi hj hs ht u.1 ++ (cC cy hc ac u.2.1 ++ (cC cy hi ai wi ++ (cC cy hj aj wj ++ (cS hs u.2.2 ++ (cT ht wt ++ (cM cy cz hm am wm)))))))) rfl rfl (by decide) (by decide) (by decide) (fun u => rfl) (fun r334 u9 H locs hq hW => ?_)
  obtain ⟨wh334, wc334, ws334⟩ := u9
  try dsimp only at hq hW
  refine lv_aload_n hC.x hC.b dL_law_337 rfl (lv_at hl 2 rfl) ?_
  refine hc_goI hC hW (hc_rV hC (c_X4_ways l D cy cz t1 t2 hm am wm _ hq) (hc_preS hC hW [45, 46, 47, 48, 49, 50, 51, 52, 53, 54, 55, 56, 57, 58, 59] rfl rfl) hW 45 4 rfl rfl q_337 q_338 q_339 q_5 q_340 hd_X4_ways ⟨rfl, rfl⟩ ⟨Nat.le_of_ble_eq_true rfl, Nat.le_of_ble_eq_true rfl⟩ rfl hl.1 rfl (Nat.le_of_ble_eq_true rfl) dL_law_338 ⟨Nat.le_of_ble_eq_true rfl, Nat.le_of_ble_eq_true rfl⟩) [45, 46, 47, 48, 49, 50, 51, 52, 53, 54, 55, 56, 57, 58, 59] [0, 1, 2, 3, 4, 5, 6, 7, 8, 9, 10, 11, 12, 13, 14, 15, 16, 17, 18, 19, 20, 21, 22, 23, 24, 25, 26, 27, 28, 29, 30, 31, 32, 33, 34, 35, 36, 37, 38, 39, 40, 41, 42, 43, 44] [0, 1, 2, 3, 4, 5, 6, 7, 8, 9, 10, 11, 12, 13, 14, 15, 16, 17, 18, 19, 20, 21, 22, 23, 24, 25, 26, 27, 28, 29, 30, 31, 32, 33, 34, 35, 36, 37, 38, 39, 40, 41, 42, 43, 44, 45, 46, 47, 48, 49, 50, 51, 52, 53, 54, 55, 56, 57, 58, 59] (cH hh hc hi hj hs ht wh334 ++ (cC cy hc ac wc334 ++ (cC cy hi ai wi ++ (cC cy hj aj wj ++ (cS hs ws334 ++ (cT ht wt)))))) (fun u => (cH hh hc hi hj hs ht wh334 ++ (cC cy hc ac wc334 ++ (cC cy hi ai wi ++ (cC cy hj aj wj ++ (cS hs ws334 ++ (cT ht wt ++ (cM cy cz hm am u)))))))) rfl rfl (by decide) (by decide) (by decide) (fun u => rfl) (fun r338 u9 H locs hq hW => ?_)
  obtain ⟨wm338, rfl⟩ : ∃ z, z = u9 := ⟨_, rfl⟩
  try dsimp only at hq hW
  refine lv_icmp_eq (tgt := 570) hC.x hC.b dL_law_341 (by decide) (fun hc9 => ?_) (fun hc9 => ?_)
  · replace hq := hq.1 hc9
    exact B_L_law_570 hh hc hi hj hs ht ac ai aj hm am b L xs hX K18 hK18 hC x3 wh334 wc334 wi wj ws334 wt wm338 hq hW (lv_sub hl [0, 1, 2, 3] rfl)
  · replace hq := hq.2 hc9
    refine lv_iconst (v := 0) hC.x hC.b dL_law_344 (by decide) ?_
    exact absurd hq (by decide)
def k_L_law_458 (K18 : (Int32 × Wd × Wd × Wd × Wd × Wd × Wd × Wd) → Prop) (L : Nat) (xs : Nat → Int32) (x3 : Int32) (wh : Wd) (wc : Wd) (wi : Wd) (wj : Wd) (ws : Wd) (wt : Wd) (wm : Wd) : Prop :=
 (vp_in (x3 + 1) L ∧ (vp_in (x3 + 2) L ∧ (vp_in (x3 + 3) L ∧ (k_X3_apart (xs ((x3 + 1)).toNatClampNeg) (xs ((x3 + 2)).toNatClampNeg) (xs ((x3 + 3)).toNatClampNeg) wh wc (fun r474 wh474 wc474 => (vp_in (x3 + 1) L ∧ (vp_in (x3 + 2) L ∧ (vp_in (x3 + 3) L ∧ (k_X4_apart (xs ((x3 + 1)).toNatClampNeg) (xs ((x3 + 2)).toNatClampNeg) (xs ((x3 + 3)).toNatClampNeg) wm (fun r493 wm493 => ((r474 = r493 → (k_L_law_570 K18 L xs x3 wh474 wc474 wi wj ws wt wm493)) ∧
 (¬ r474 = r493 → ((0 : Int32) = 1)))))))))))))
set_option maxHeartbeats 4000000 in
set_option maxRecDepth 100000 in
theorem B_L_law_458 {l : Launch} {p : Program} {e : Env} {s : State} {m : MethodId} {below : List Frame} {meth : Method} {c : Code} {A : Nat → Prop} {D : va_G} {cy cz : ClassId} {t1 t2 : Nat} (hh : Nat) (hc : Nat) (hi : Nat) (hj : Nat) (hs : Nat) (ht : Nat) (ac : Nat → Nat) (ai : Nat → Nat) (aj : Nat → Nat) (hm : Nat) (am : Nat → Nat) (b L : Nat) (xs : Nat → Int32) (hX : LwX b L xs s A) (K18 : (Int32 × Wd × Wd × Wd × Wd × Wd × Wd × Wd) → Prop) (hK18 : ∀ b9 : Int32 × Wd × Wd × Wd × Wd × Wd × Wd × Wd, K18 b9 → ∀ (H : Heap) (locs : List Loc) (ls : Array Slot), Wo D A s (cH hh hc hi hj hs ht b9.2.1 ++ (cC cy hc ac b9.2.2.1 ++ (cC cy hi ai b9.2.2.2.1 ++ (cC cy hj aj b9.2.2.2.2.1 ++ (cS hs b9.2.2.2.2.2.1 ++ (cT ht b9.2.2.2.2.2.2.1 ++ (cM cy cz hm am b9.2.2.2.2.2.2.2))))))) H locs → lv_has ls 4 [(0, .ref b), (1, .ref hh), (2, .ref hm), (3, .int b9.1)] → W p l e room_1 s m #[Value.ref b] below meth c H locs 60 1638 (lw_Z below #[Value.ref b] s) (F0 m 18 ls [])) (hC : Cx D cy cz t1 t2 p s m #[Value.ref b] meth c cL_law 4 ret RL A) (x3 : Int32) (wh : Wd) (wc : Wd) (wi : Wd) (wj : Wd) (ws : Wd) (wt : Wd) (wm : Wd) {H : Heap} {locs : List Loc} {ls : Array Slot} (hq : k_L_law_458 K18 L xs x3 wh wc wi wj ws wt wm) (hW : Wo D A s (cH hh hc hi hj hs ht wh ++ (cC cy hc ac wc ++ (cC cy hi ai wi ++ (cC cy hj aj wj ++ (cS hs ws ++ (cT ht wt ++ (cM cy cz hm am wm))))))) H locs) (hl : lv_has ls 4 [(0, .ref b), (1, .ref hh), (2, .ref hm), (3, .int x3)]) : W p l e room_1 s m #[Value.ref b] below meth c H locs 60 1638 (lw_Z below #[Value.ref b] s) (F0 m 458 ls []) := by
  unfold k_L_law_458 at hq
  refine lv_aload_n hC.x hC.b dL_law_458 rfl (lv_at hl 1 rfl) ?_
  refine lv_aload_n hC.x hC.b dL_law_459 rfl (lv_at hl 0 rfl) ?_
  refine lv_iload_n hC.x hC.b dL_law_460 rfl (lv_at hl 3 rfl) ?_
  refine lv_iconst (v := 1) hC.x hC.b dL_law_461 (by decide) ?_
  refine lv_iadd hC.x hC.b dL_law_462 ?_
  refine va_sld hC.x hC.b hX.1 hX.2.1 hX.2.2.1 hW.2.2 hq.1 dL_law_463 ?_
  replace hq := hq.2
  refine lv_aload_n hC.x hC.b dL_law_464 rfl (lv_at hl 0 rfl) ?_
  refine lv_iload_n hC.x hC.b dL_law_465 rfl (lv_at hl 3 rfl) ?_
  refine lv_iconst (v := 2) hC.x hC.b dL_law_466 (by decide) ?_
  refine lv_iadd hC.x hC.b dL_law_467 ?_
  refine va_sld hC.x hC.b hX.1 hX.2.1 hX.2.2.1 hW.2.2 hq.1 dL_law_468 ?_
  replace hq := hq.2
  refine lv_aload_n hC.x hC.b dL_law_469 rfl (lv_at hl 0 rfl) ?_
  refine lv_iload_n hC.x hC.b dL_law_470 rfl (lv_at hl 3 rfl) ?_
  refine lv_iconst (v := 3) hC.x hC.b dL_law_471 (by decide) ?_
  refine lv_iadd hC.x hC.b dL_law_472 ?_
  refine va_sld hC.x hC.b hX.1 hX.2.1 hX.2.2.1 hW.2.2 hq.1 dL_law_473 ?_
  replace hq := hq.2
  refine hc_goI hC hW (hc_rV hC (c_X3_apart l D cy cz t1 t2 hh hc hi hj hs ht ac (xs ((x3 + 1)).toNatClampNeg) (xs ((x3 + 2)).toNatClampNeg) (xs ((x3 + 3)).toNatClampNeg) wh wc _ hq) (hc_preS hC hW [0, 1, 2, 3, 4, 5, 6, 7, 8, 9, 10, 11, 12, 13, 14] rfl rfl) hW 0 3 rfl rfl q_507 q_508 q_509 q_2 q_510 hd_X3_apart ⟨rfl, rfl⟩ ⟨Nat.le_of_ble_eq_true rfl, Nat.le_of_ble_eq_true rfl⟩ rfl hl.1 rfl (Nat.le_of_ble_eq_true rfl) dL_law_474 ⟨Nat.le_of_ble_eq_true rfl, Nat.le_of_ble_eq_true rfl⟩) [0, 1, 2, 3, 4, 5, 6, 7, 8, 9, 10, 11, 12, 13, 14] [15, 16, 17, 18, 19, 20, 21, 22, 23, 24, 25, 26, 27, 28, 29, 30, 31, 32, 33, 34, 35, 36, 37, 38, 39, 40, 41, 42, 43, 44, 45, 46, 47, 48, 49, 50, 51, 52, 53, 54, 55, 56, 57, 58, 59] [45, 46, 47, 48, 49, 50, 51, 52, 53, 54, 55, 56, 57, 58, 59, 0, 1, 2, 3, 4, 5, 6, 7, 8, 9, 10, 11, 12, 13, 14, 15, 16, 17, 18, 19, 20, 21, 22, 23, 24, 25, 26, 27, 28, 29, 30, 31, 32, 33, 34, 35, 36, 37, 38, 39, 40, 41, 42, 43, 44] (cC cy hi ai wi ++ (cC cy hj aj wj ++ (cS hs ws ++ (cT ht wt ++ (cM cy cz hm am wm))))) (fun u => (cH hh hc hi hj hs ht u.1 ++ (cC cy hc ac u.2 ++ (cC cy hi ai wi ++ (cC cy hj aj wj ++ (cS hs ws ++ (cT ht wt ++ (cM cy cz hm am wm)))))))) rfl rfl (by decide) (by decide) (by decide) (fun u => rfl) (fun r474 u9 H locs hq hW => ?_)
  obtain ⟨wh474, wc474⟩ := u9
  try dsimp only at hq hW
  refine lv_aload_n hC.x hC.b dL_law_477 rfl (lv_at hl 2 rfl) ?_
  refine lv_aload_n hC.x hC.b dL_law_478 rfl (lv_at hl 0 rfl) ?_
  refine lv_iload_n hC.x hC.b dL_law_479 rfl (lv_at hl 3 rfl) ?_
  refine lv_iconst (v := 1) hC.x hC.b dL_law_480 (by decide) ?_
  refine lv_iadd hC.x hC.b dL_law_481 ?_
  refine va_sld hC.x hC.b hX.1 hX.2.1 hX.2.2.1 hW.2.2 hq.1 dL_law_482 ?_
  replace hq := hq.2
  refine lv_aload_n hC.x hC.b dL_law_483 rfl (lv_at hl 0 rfl) ?_
  refine lv_iload_n hC.x hC.b dL_law_484 rfl (lv_at hl 3 rfl) ?_
  refine lv_iconst (v := 2) hC.x hC.b dL_law_485 (by decide) ?_
  refine lv_iadd hC.x hC.b dL_law_486 ?_
  refine va_sld hC.x hC.b hX.1 hX.2.1 hX.2.2.1 hW.2.2 hq.1 dL_law_487 ?_
  replace hq := hq.2
  refine lv_aload_n hC.x hC.b dL_law_488 rfl (lv_at hl 0 rfl) ?_
  refine lv_iload_n hC.x hC.b dL_law_489 rfl (lv_at hl 3 rfl) ?_
  refine lv_iconst (v := 3) hC.x hC.b dL_law_490 (by decide) ?_
  refine lv_iadd hC.x hC.b dL_law_491 ?_
  refine va_sld hC.x hC.b hX.1 hX.2.1 hX.2.2.1 hW.2.2 hq.1 dL_law_492 ?_
  replace hq := hq.2
  refine hc_goI hC hW (hc_rV hC (c_X4_apart l D cy cz t1 t2 hm am (xs ((x3 + 1)).toNatClampNeg) (xs ((x3 + 2)).toNatClampNeg) (xs ((x3 + 3)).toNatClampNeg) wm _ hq) (hc_preS hC hW [45, 46, 47, 48, 49, 50, 51, 52, 53, 54, 55, 56, 57, 58, 59] rfl rfl) hW 45 4 rfl rfl q_513 q_514 q_515 q_5 q_516 hd_X4_apart ⟨rfl, rfl⟩ ⟨Nat.le_of_ble_eq_true rfl, Nat.le_of_ble_eq_true rfl⟩ rfl hl.1 rfl (Nat.le_of_ble_eq_true rfl) dL_law_493 ⟨Nat.le_of_ble_eq_true rfl, Nat.le_of_ble_eq_true rfl⟩) [45, 46, 47, 48, 49, 50, 51, 52, 53, 54, 55, 56, 57, 58, 59] [0, 1, 2, 3, 4, 5, 6, 7, 8, 9, 10, 11, 12, 13, 14, 15, 16, 17, 18, 19, 20, 21, 22, 23, 24, 25, 26, 27, 28, 29, 30, 31, 32, 33, 34, 35, 36, 37, 38, 39, 40, 41, 42, 43, 44] [0, 1, 2, 3, 4, 5, 6, 7, 8, 9, 10, 11, 12, 13, 14, 15, 16, 17, 18, 19, 20, 21, 22, 23, 24, 25, 26, 27, 28, 29, 30, 31, 32, 33, 34, 35, 36, 37, 38, 39, 40, 41, 42, 43, 44, 45, 46, 47, 48, 49, 50, 51, 52, 53, 54, 55, 56, 57, 58, 59] (cH hh hc hi hj hs ht wh474 ++ (cC cy hc ac wc474 ++ (cC cy hi ai wi ++ (cC cy hj aj wj ++ (cS hs ws ++ (cT ht wt)))))) (fun u => (cH hh hc hi hj hs ht wh474 ++ (cC cy hc ac wc474 ++ (cC cy hi ai wi ++ (cC cy hj aj wj ++ (cS hs ws ++ (cT ht wt ++ (cM cy cz hm am u)))))))) rfl rfl (by decide) (by decide) (by decide) (fun u => rfl) (fun r493 u9 H locs hq hW => ?_)
  obtain ⟨wm493, rfl⟩ : ∃ z, z = u9 := ⟨_, rfl⟩
  try dsimp only at hq hW
  refine lv_icmp_eq (tgt := 570) hC.x hC.b dL_law_496 (by decide) (fun hc9 => ?_) (fun hc9 => ?_)
  · replace hq := hq.1 hc9
    exact B_L_law_570 hh hc hi hj hs ht ac ai aj hm am b L xs hX K18 hK18 hC x3 wh474 wc474 wi wj ws wt wm493 hq hW (lv_sub hl [0, 1, 2, 3] rfl)
  · replace hq := hq.2 hc9
    refine lv_iconst (v := 0) hC.x hC.b dL_law_499 (by decide) ?_
    exact absurd hq (by decide)
def k_L_law_524 (K18 : (Int32 × Wd × Wd × Wd × Wd × Wd × Wd × Wd) → Prop) (L : Nat) (xs : Nat → Int32) (x3 : Int32) (wh : Wd) (wc : Wd) (wi : Wd) (wj : Wd) (ws : Wd) (wt : Wd) (wm : Wd) : Prop :=
 (vp_in (x3 + 1) L ∧ (k_X3_restore (xs ((x3 + 1)).toNatClampNeg) wh wc wi wj (fun r530 wh530 wc530 wi530 wj530 => (vp_in (x3 + 1) L ∧ (k_X4_restore (xs ((x3 + 1)).toNatClampNeg) wm (fun r539 wm539 => ((r530 = r539 → (k_L_law_570 K18 L xs x3 wh530 wc530 wi530 wj530 ws wt wm539)) ∧
 (¬ r530 = r539 → ((0 : Int32) = 1)))))))))
set_option maxHeartbeats 4000000 in
set_option maxRecDepth 100000 in
theorem B_L_law_524 {l : Launch} {p : Program} {e : Env} {s : State} {m : MethodId} {below : List Frame} {meth : Method} {c : Code} {A : Nat → Prop} {D : va_G} {cy cz : ClassId} {t1 t2 : Nat} (hh : Nat) (hc : Nat) (hi : Nat) (hj : Nat) (hs : Nat) (ht : Nat) (ac : Nat → Nat) (ai : Nat → Nat) (aj : Nat → Nat) (hm : Nat) (am : Nat → Nat) (b L : Nat) (xs : Nat → Int32) (hX : LwX b L xs s A) (K18 : (Int32 × Wd × Wd × Wd × Wd × Wd × Wd × Wd) → Prop) (hK18 : ∀ b9 : Int32 × Wd × Wd × Wd × Wd × Wd × Wd × Wd, K18 b9 → ∀ (H : Heap) (locs : List Loc) (ls : Array Slot), Wo D A s (cH hh hc hi hj hs ht b9.2.1 ++ (cC cy hc ac b9.2.2.1 ++ (cC cy hi ai b9.2.2.2.1 ++ (cC cy hj aj b9.2.2.2.2.1 ++ (cS hs b9.2.2.2.2.2.1 ++ (cT ht b9.2.2.2.2.2.2.1 ++ (cM cy cz hm am b9.2.2.2.2.2.2.2))))))) H locs → lv_has ls 4 [(0, .ref b), (1, .ref hh), (2, .ref hm), (3, .int b9.1)] → W p l e room_1 s m #[Value.ref b] below meth c H locs 60 1638 (lw_Z below #[Value.ref b] s) (F0 m 18 ls [])) (hC : Cx D cy cz t1 t2 p s m #[Value.ref b] meth c cL_law 4 ret RL A) (x3 : Int32) (wh : Wd) (wc : Wd) (wi : Wd) (wj : Wd) (ws : Wd) (wt : Wd) (wm : Wd) {H : Heap} {locs : List Loc} {ls : Array Slot} (hq : k_L_law_524 K18 L xs x3 wh wc wi wj ws wt wm) (hW : Wo D A s (cH hh hc hi hj hs ht wh ++ (cC cy hc ac wc ++ (cC cy hi ai wi ++ (cC cy hj aj wj ++ (cS hs ws ++ (cT ht wt ++ (cM cy cz hm am wm))))))) H locs) (hl : lv_has ls 4 [(0, .ref b), (1, .ref hh), (2, .ref hm), (3, .int x3)]) : W p l e room_1 s m #[Value.ref b] below meth c H locs 60 1638 (lw_Z below #[Value.ref b] s) (F0 m 524 ls []) := by
  unfold k_L_law_524 at hq
  refine lv_aload_n hC.x hC.b dL_law_524 rfl (lv_at hl 1 rfl) ?_
  refine lv_aload_n hC.x hC.b dL_law_525 rfl (lv_at hl 0 rfl) ?_
  refine lv_iload_n hC.x hC.b dL_law_526 rfl (lv_at hl 3 rfl) ?_
  refine lv_iconst (v := 1) hC.x hC.b dL_law_527 (by decide) ?_
  refine lv_iadd hC.x hC.b dL_law_528 ?_
  refine va_sld hC.x hC.b hX.1 hX.2.1 hX.2.2.1 hW.2.2 hq.1 dL_law_529 ?_
  replace hq := hq.2
  refine hc_goI hC hW (hc_rV hC (c_X3_restore l D cy cz t1 t2 hh hc hi hj hs ht ac ai aj (xs ((x3 + 1)).toNatClampNeg) wh wc wi wj _ hq) (hc_preS hC hW [0, 1, 2, 3, 4, 5, 6, 7, 8, 9, 10, 11, 12, 13, 14, 15, 16, 17, 18, 19, 20, 21, 22, 23, 24, 25, 26, 27, 28, 29, 30, 31, 32, 33, 34, 35, 36, 37, 38, 39, 40, 41, 42] rfl rfl) hW 0 3 rfl rfl q_537 q_538 q_539 q_2 q_540 hd_X3_restore ⟨rfl, rfl⟩ ⟨Nat.le_of_ble_eq_true rfl, Nat.le_of_ble_eq_true rfl⟩ rfl hl.1 rfl (Nat.le_of_ble_eq_true rfl) dL_law_530 ⟨Nat.le_of_ble_eq_true rfl, Nat.le_of_ble_eq_true rfl⟩) [0, 1, 2, 3, 4, 5, 6, 7, 8, 9, 10, 11, 12, 13, 14, 15, 16, 17, 18, 19, 20, 21, 22, 23, 24, 25, 26, 27, 28, 29, 30, 31, 32, 33, 34, 35, 36, 37, 38, 39, 40, 41, 42] [43, 44, 45, 46, 47, 48, 49, 50, 51, 52, 53, 54, 55, 56, 57, 58, 59] [17, 18, 19, 20, 21, 22, 23, 24, 25, 26, 27, 28, 29, 30, 31, 32, 33, 34, 35, 36, 37, 38, 39, 40, 41, 42, 43, 44, 45, 46, 47, 48, 49, 50, 51, 52, 53, 54, 55, 56, 57, 58, 59, 0, 1, 2, 3, 4, 5, 6, 7, 8, 9, 10, 11, 12, 13, 14, 15, 16] (cS hs ws ++ (cT ht wt ++ (cM cy cz hm am wm))) (fun u => (cH hh hc hi hj hs ht u.1 ++ (cC cy hc ac u.2.1 ++ (cC cy hi ai u.2.2.1 ++ (cC cy hj aj u.2.2.2 ++ (cS hs ws ++ (cT ht wt ++ (cM cy cz hm am wm)))))))) rfl rfl (by decide) (by decide) (by decide) (fun u => rfl) (fun r530 u9 H locs hq hW => ?_)
  obtain ⟨wh530, wc530, wi530, wj530⟩ := u9
  try dsimp only at hq hW
  refine lv_aload_n hC.x hC.b dL_law_533 rfl (lv_at hl 2 rfl) ?_
  refine lv_aload_n hC.x hC.b dL_law_534 rfl (lv_at hl 0 rfl) ?_
  refine lv_iload_n hC.x hC.b dL_law_535 rfl (lv_at hl 3 rfl) ?_
  refine lv_iconst (v := 1) hC.x hC.b dL_law_536 (by decide) ?_
  refine lv_iadd hC.x hC.b dL_law_537 ?_
  refine va_sld hC.x hC.b hX.1 hX.2.1 hX.2.2.1 hW.2.2 hq.1 dL_law_538 ?_
  replace hq := hq.2
  refine hc_goI hC hW (hc_rV hC (c_X4_restore l D cy cz t1 t2 hm am (xs ((x3 + 1)).toNatClampNeg) wm _ hq) (hc_preS hC hW [45, 46, 47, 48, 49, 50, 51, 52, 53, 54, 55, 56, 57, 58, 59] rfl rfl) hW 45 4 rfl rfl q_542 q_543 q_544 q_5 q_545 hd_X4_restore ⟨rfl, rfl⟩ ⟨Nat.le_of_ble_eq_true rfl, Nat.le_of_ble_eq_true rfl⟩ rfl hl.1 rfl (Nat.le_of_ble_eq_true rfl) dL_law_539 ⟨Nat.le_of_ble_eq_true rfl, Nat.le_of_ble_eq_true rfl⟩) [45, 46, 47, 48, 49, 50, 51, 52, 53, 54, 55, 56, 57, 58, 59] [0, 1, 2, 3, 4, 5, 6, 7, 8, 9, 10, 11, 12, 13, 14, 15, 16, 17, 18, 19, 20, 21, 22, 23, 24, 25, 26, 27, 28, 29, 30, 31, 32, 33, 34, 35, 36, 37, 38, 39, 40, 41, 42, 43, 44] [0, 1, 2, 3, 4, 5, 6, 7, 8, 9, 10, 11, 12, 13, 14, 15, 16, 17, 18, 19, 20, 21, 22, 23, 24, 25, 26, 27, 28, 29, 30, 31, 32, 33, 34, 35, 36, 37, 38, 39, 40, 41, 42, 43, 44, 45, 46, 47, 48, 49, 50, 51, 52, 53, 54, 55, 56, 57, 58, 59] (cH hh hc hi hj hs ht wh530 ++ (cC cy hc ac wc530 ++ (cC cy hi ai wi530 ++ (cC cy hj aj wj530 ++ (cS hs ws ++ (cT ht wt)))))) (fun u => (cH hh hc hi hj hs ht wh530 ++ (cC cy hc ac wc530 ++ (cC cy hi ai wi530 ++ (cC cy hj aj wj530 ++ (cS hs ws ++ (cT ht wt ++ (cM cy cz hm am u)))))))) rfl rfl (by decide) (by decide) (by decide) (fun u => rfl) (fun r539 u9 H locs hq hW => ?_)
  obtain ⟨wm539, rfl⟩ : ∃ z, z = u9 := ⟨_, rfl⟩
  try dsimp only at hq hW
  refine lv_icmp_eq (tgt := 570) hC.x hC.b dL_law_542 (by decide) (fun hc9 => ?_) (fun hc9 => ?_)
  · replace hq := hq.1 hc9
    exact B_L_law_570 hh hc hi hj hs ht ac ai aj hm am b L xs hX K18 hK18 hC x3 wh530 wc530 wi530 wj530 ws wt wm539 hq hW (lv_sub hl [0, 1, 2, 3] rfl)
  · replace hq := hq.2 hc9
    refine lv_iconst (v := 0) hC.x hC.b dL_law_545 (by decide) ?_
    exact absurd hq (by decide)
def k_L_law_112 (K18 : (Int32 × Wd × Wd × Wd × Wd × Wd × Wd × Wd) → Prop) (L : Nat) (xs : Nat → Int32) (x3 : Int32) (wh : Wd) (wc : Wd) (wi : Wd) (wj : Wd) (ws : Wd) (wt : Wd) (wm : Wd) : Prop :=
 (vp_in (x3 + 1) L ∧ (k_X3_size (xs ((x3 + 1)).toNatClampNeg) wh wc (fun r118 wh118 wc118 => (vp_in (x3 + 1) L ∧ (k_X4_size (xs ((x3 + 1)).toNatClampNeg) wm (fun r127 wm127 => ((r118 = r127 → (k_L_law_570 K18 L xs x3 wh118 wc118 wi wj ws wt wm127)) ∧
 (¬ r118 = r127 → ((0 : Int32) = 1)))))))))
set_option maxHeartbeats 4000000 in
set_option maxRecDepth 100000 in
theorem B_L_law_112 {l : Launch} {p : Program} {e : Env} {s : State} {m : MethodId} {below : List Frame} {meth : Method} {c : Code} {A : Nat → Prop} {D : va_G} {cy cz : ClassId} {t1 t2 : Nat} (hh : Nat) (hc : Nat) (hi : Nat) (hj : Nat) (hs : Nat) (ht : Nat) (ac : Nat → Nat) (ai : Nat → Nat) (aj : Nat → Nat) (hm : Nat) (am : Nat → Nat) (b L : Nat) (xs : Nat → Int32) (hX : LwX b L xs s A) (K18 : (Int32 × Wd × Wd × Wd × Wd × Wd × Wd × Wd) → Prop) (hK18 : ∀ b9 : Int32 × Wd × Wd × Wd × Wd × Wd × Wd × Wd, K18 b9 → ∀ (H : Heap) (locs : List Loc) (ls : Array Slot), Wo D A s (cH hh hc hi hj hs ht b9.2.1 ++ (cC cy hc ac b9.2.2.1 ++ (cC cy hi ai b9.2.2.2.1 ++ (cC cy hj aj b9.2.2.2.2.1 ++ (cS hs b9.2.2.2.2.2.1 ++ (cT ht b9.2.2.2.2.2.2.1 ++ (cM cy cz hm am b9.2.2.2.2.2.2.2))))))) H locs → lv_has ls 4 [(0, .ref b), (1, .ref hh), (2, .ref hm), (3, .int b9.1)] → W p l e room_1 s m #[Value.ref b] below meth c H locs 60 1638 (lw_Z below #[Value.ref b] s) (F0 m 18 ls [])) (hC : Cx D cy cz t1 t2 p s m #[Value.ref b] meth c cL_law 4 ret RL A) (x3 : Int32) (wh : Wd) (wc : Wd) (wi : Wd) (wj : Wd) (ws : Wd) (wt : Wd) (wm : Wd) {H : Heap} {locs : List Loc} {ls : Array Slot} (hq : k_L_law_112 K18 L xs x3 wh wc wi wj ws wt wm) (hW : Wo D A s (cH hh hc hi hj hs ht wh ++ (cC cy hc ac wc ++ (cC cy hi ai wi ++ (cC cy hj aj wj ++ (cS hs ws ++ (cT ht wt ++ (cM cy cz hm am wm))))))) H locs) (hl : lv_has ls 4 [(0, .ref b), (1, .ref hh), (2, .ref hm), (3, .int x3)]) : W p l e room_1 s m #[Value.ref b] below meth c H locs 60 1638 (lw_Z below #[Value.ref b] s) (F0 m 112 ls []) := by
  unfold k_L_law_112 at hq
  refine lv_aload_n hC.x hC.b dL_law_112 rfl (lv_at hl 1 rfl) ?_
  refine lv_aload_n hC.x hC.b dL_law_113 rfl (lv_at hl 0 rfl) ?_
  refine lv_iload_n hC.x hC.b dL_law_114 rfl (lv_at hl 3 rfl) ?_
  refine lv_iconst (v := 1) hC.x hC.b dL_law_115 (by decide) ?_
  refine lv_iadd hC.x hC.b dL_law_116 ?_
  refine va_sld hC.x hC.b hX.1 hX.2.1 hX.2.2.1 hW.2.2 hq.1 dL_law_117 ?_
  replace hq := hq.2
  refine hc_goI hC hW (hc_rV hC (c_X3_size l D cy cz t1 t2 hh hc hi hj hs ht ac (xs ((x3 + 1)).toNatClampNeg) wh wc _ hq) (hc_preS hC hW [0, 1, 2, 3, 4, 5, 6, 7, 8, 9, 10, 11, 12, 13, 14] rfl rfl) hW 0 3 rfl rfl q_106 q_107 q_108 q_2 q_109 hd_X3_size ⟨rfl, rfl⟩ ⟨Nat.le_of_ble_eq_true rfl, Nat.le_of_ble_eq_true rfl⟩ rfl hl.1 rfl (Nat.le_of_ble_eq_true rfl) dL_law_118 ⟨Nat.le_of_ble_eq_true rfl, Nat.le_of_ble_eq_true rfl⟩) [0, 1, 2, 3, 4, 5, 6, 7, 8, 9, 10, 11, 12, 13, 14] [15, 16, 17, 18, 19, 20, 21, 22, 23, 24, 25, 26, 27, 28, 29, 30, 31, 32, 33, 34, 35, 36, 37, 38, 39, 40, 41, 42, 43, 44, 45, 46, 47, 48, 49, 50, 51, 52, 53, 54, 55, 56, 57, 58, 59] [45, 46, 47, 48, 49, 50, 51, 52, 53, 54, 55, 56, 57, 58, 59, 0, 1, 2, 3, 4, 5, 6, 7, 8, 9, 10, 11, 12, 13, 14, 15, 16, 17, 18, 19, 20, 21, 22, 23, 24, 25, 26, 27, 28, 29, 30, 31, 32, 33, 34, 35, 36, 37, 38, 39, 40, 41, 42, 43, 44] (cC cy hi ai wi ++ (cC cy hj aj wj ++ (cS hs ws ++ (cT ht wt ++ (cM cy cz hm am wm))))) (fun u => (cH hh hc hi hj hs ht u.1 ++ (cC cy hc ac u.2 ++ (cC cy hi ai wi ++ (cC cy hj aj wj ++ (cS hs ws ++ (cT ht wt ++ (cM cy cz hm am wm)))))))) rfl rfl (by decide) (by decide) (by decide) (fun u => rfl) (fun r118 u9 H locs hq hW => ?_)
  obtain ⟨wh118, wc118⟩ := u9
  try dsimp only at hq hW
  refine lv_aload_n hC.x hC.b dL_law_121 rfl (lv_at hl 2 rfl) ?_
  refine lv_aload_n hC.x hC.b dL_law_122 rfl (lv_at hl 0 rfl) ?_
  refine lv_iload_n hC.x hC.b dL_law_123 rfl (lv_at hl 3 rfl) ?_
  refine lv_iconst (v := 1) hC.x hC.b dL_law_124 (by decide) ?_
  refine lv_iadd hC.x hC.b dL_law_125 ?_
  refine va_sld hC.x hC.b hX.1 hX.2.1 hX.2.2.1 hW.2.2 hq.1 dL_law_126 ?_
  replace hq := hq.2
  refine hc_goI hC hW (hc_rV hC (c_X4_size l D cy cz t1 t2 hm am (xs ((x3 + 1)).toNatClampNeg) wm _ hq) (hc_preS hC hW [45, 46, 47, 48, 49, 50, 51, 52, 53, 54, 55, 56, 57, 58, 59] rfl rfl) hW 45 4 rfl rfl q_116 q_117 q_118 q_5 q_119 hd_X4_size ⟨rfl, rfl⟩ ⟨Nat.le_of_ble_eq_true rfl, Nat.le_of_ble_eq_true rfl⟩ rfl hl.1 rfl (Nat.le_of_ble_eq_true rfl) dL_law_127 ⟨Nat.le_of_ble_eq_true rfl, Nat.le_of_ble_eq_true rfl⟩) [45, 46, 47, 48, 49, 50, 51, 52, 53, 54, 55, 56, 57, 58, 59] [0, 1, 2, 3, 4, 5, 6, 7, 8, 9, 10, 11, 12, 13, 14, 15, 16, 17, 18, 19, 20, 21, 22, 23, 24, 25, 26, 27, 28, 29, 30, 31, 32, 33, 34, 35, 36, 37, 38, 39, 40, 41, 42, 43, 44] [0, 1, 2, 3, 4, 5, 6, 7, 8, 9, 10, 11, 12, 13, 14, 15, 16, 17, 18, 19, 20, 21, 22, 23, 24, 25, 26, 27, 28, 29, 30, 31, 32, 33, 34, 35, 36, 37, 38, 39, 40, 41, 42, 43, 44, 45, 46, 47, 48, 49, 50, 51, 52, 53, 54, 55, 56, 57, 58, 59] (cH hh hc hi hj hs ht wh118 ++ (cC cy hc ac wc118 ++ (cC cy hi ai wi ++ (cC cy hj aj wj ++ (cS hs ws ++ (cT ht wt)))))) (fun u => (cH hh hc hi hj hs ht wh118 ++ (cC cy hc ac wc118 ++ (cC cy hi ai wi ++ (cC cy hj aj wj ++ (cS hs ws ++ (cT ht wt ++ (cM cy cz hm am u)))))))) rfl rfl (by decide) (by decide) (by decide) (fun u => rfl) (fun r127 u9 H locs hq hW => ?_)
  obtain ⟨wm127, rfl⟩ : ∃ z, z = u9 := ⟨_, rfl⟩
  try dsimp only at hq hW
  refine lv_icmp_eq (tgt := 570) hC.x hC.b dL_law_130 (by decide) (fun hc9 => ?_) (fun hc9 => ?_)
  · replace hq := hq.1 hc9
    exact B_L_law_570 hh hc hi hj hs ht ac ai aj hm am b L xs hX K18 hK18 hC x3 wh118 wc118 wi wj ws wt wm127 hq hW (lv_sub hl [0, 1, 2, 3] rfl)
  · replace hq := hq.2 hc9
    refine lv_iconst (v := 0) hC.x hC.b dL_law_133 (by decide) ?_
    exact absurd hq (by decide)
def k_L_law_369 (K18 : (Int32 × Wd × Wd × Wd × Wd × Wd × Wd × Wd) → Prop) (L : Nat) (xs : Nat → Int32) (x3 : Int32) (wh : Wd) (wc : Wd) (wi : Wd) (wj : Wd) (ws : Wd) (wt : Wd) (wm : Wd) : Prop :=
 (k_X3_two wh wc ws (fun r370 wh370 wc370 ws370 => (k_X4_two wm (fun r374 wm374 => ((r370 = r374 → (k_L_law_570 K18 L xs x3 wh370 wc370 wi wj ws370 wt wm374)) ∧
 (¬ r370 = r374 → ((0 : Int32) = 1)))))))
set_option maxHeartbeats 4000000 in
set_option maxRecDepth 100000 in
theorem B_L_law_369 {l : Launch} {p : Program} {e : Env} {s : State} {m : MethodId} {below : List Frame} {meth : Method} {c : Code} {A : Nat → Prop} {D : va_G} {cy cz : ClassId} {t1 t2 : Nat} (hh : Nat) (hc : Nat) (hi : Nat) (hj : Nat) (hs : Nat) (ht : Nat) (ac : Nat → Nat) (ai : Nat → Nat) (aj : Nat → Nat) (hm : Nat) (am : Nat → Nat) (b L : Nat) (xs : Nat → Int32) (hX : LwX b L xs s A) (K18 : (Int32 × Wd × Wd × Wd × Wd × Wd × Wd × Wd) → Prop) (hK18 : ∀ b9 : Int32 × Wd × Wd × Wd × Wd × Wd × Wd × Wd, K18 b9 → ∀ (H : Heap) (locs : List Loc) (ls : Array Slot), Wo D A s (cH hh hc hi hj hs ht b9.2.1 ++ (cC cy hc ac b9.2.2.1 ++ (cC cy hi ai b9.2.2.2.1 ++ (cC cy hj aj b9.2.2.2.2.1 ++ (cS hs b9.2.2.2.2.2.1 ++ (cT ht b9.2.2.2.2.2.2.1 ++ (cM cy cz hm am b9.2.2.2.2.2.2.2))))))) H locs → lv_has ls 4 [(0, .ref b), (1, .ref hh), (2, .ref hm), (3, .int b9.1)] → W p l e room_1 s m #[Value.ref b] below meth c H locs 60 1638 (lw_Z below #[Value.ref b] s) (F0 m 18 ls [])) (hC : Cx D cy cz t1 t2 p s m #[Value.ref b] meth c cL_law 4 ret RL A) (x3 : Int32) (wh : Wd) (wc : Wd) (wi : Wd) (wj : Wd) (ws : Wd) (wt : Wd) (wm : Wd) {H : Heap} {locs : List Loc} {ls : Array Slot} (hq : k_L_law_369 K18 L xs x3 wh wc wi wj ws wt wm) (hW : Wo D A s (cH hh hc hi hj hs ht wh ++ (cC cy hc ac wc ++ (cC cy hi ai wi ++ (cC cy hj aj wj ++ (cS hs ws ++ (cT ht wt ++ (cM cy cz hm am wm))))))) H locs) (hl : lv_has ls 4 [(0, .ref b), (1, .ref hh), (2, .ref hm), (3, .int x3)]) : W p l e room_1 s m #[Value.ref b] below meth c H locs 60 1638 (lw_Z below #[Value.ref b] s) (F0 m 369 ls []) := by
  unfold k_L_law_369 at hq
  refine lv_aload_n hC.x hC.b dL_law_369 rfl (lv_at hl 1 rfl) ?_
  refine hc_goI hC hW (hc_rV hC (c_X3_two l D cy cz t1 t2 hh hc hi hj hs ht ac wh wc ws _ hq) (hc_preS hC hW [0, 1, 2, 3, 4, 5, 6, 7, 8, 9, 10, 11, 12, 13, 14, 43] rfl rfl) hW 0 3 rfl rfl q_366 q_367 q_368 q_2 q_369 hd_X3_two ⟨rfl, rfl⟩ ⟨Nat.le_of_ble_eq_true rfl, Nat.le_of_ble_eq_true rfl⟩ rfl hl.1 rfl (Nat.le_of_ble_eq_true rfl) dL_law_370 ⟨Nat.le_of_ble_eq_true rfl, Nat.le_of_ble_eq_true rfl⟩) [0, 1, 2, 3, 4, 5, 6, 7, 8, 9, 10, 11, 12, 13, 14, 43] [15, 16, 17, 18, 19, 20, 21, 22, 23, 24, 25, 26, 27, 28, 29, 30, 31, 32, 33, 34, 35, 36, 37, 38, 39, 40, 41, 42, 44, 45, 46, 47, 48, 49, 50, 51, 52, 53, 54, 55, 56, 57, 58, 59] [44, 45, 46, 47, 48, 49, 50, 51, 52, 53, 54, 55, 56, 57, 58, 0, 1, 2, 3, 4, 5, 6, 7, 8, 9, 10, 11, 12, 13, 14, 15, 16, 17, 18, 19, 20, 21, 22, 23, 24, 25, 26, 27, 59, 28, 29, 30, 31, 32, 33, 34, 35, 36, 37, 38, 39, 40, 41, 42, 43] (cC cy hi ai wi ++ (cC cy hj aj wj ++ (cT ht wt ++ (cM cy cz hm am wm)))) (fun u => (cH hh hc hi hj hs ht u.1 ++ (cC cy hc ac u.2.1 ++ (cC cy hi ai wi ++ (cC cy hj aj wj ++ (cS hs u.2.2 ++ (cT ht wt ++ (cM cy cz hm am wm)))))))) rfl rfl (by decide) (by decide) (by decide) (fun u => rfl) (fun r370 u9 H locs hq hW => ?_)
  obtain ⟨wh370, wc370, ws370⟩ := u9
  try dsimp only at hq hW
  refine lv_aload_n hC.x hC.b dL_law_373 rfl (lv_at hl 2 rfl) ?_
  refine hc_goI hC hW (hc_rV hC (c_X4_two l D cy cz t1 t2 hm am wm _ hq) (hc_preS hC hW [45, 46, 47, 48, 49, 50, 51, 52, 53, 54, 55, 56, 57, 58, 59] rfl rfl) hW 45 4 rfl rfl q_382 q_383 q_384 q_5 q_385 hd_X4_two ⟨rfl, rfl⟩ ⟨Nat.le_of_ble_eq_true rfl, Nat.le_of_ble_eq_true rfl⟩ rfl hl.1 rfl (Nat.le_of_ble_eq_true rfl) dL_law_374 ⟨Nat.le_of_ble_eq_true rfl, Nat.le_of_ble_eq_true rfl⟩) [45, 46, 47, 48, 49, 50, 51, 52, 53, 54, 55, 56, 57, 58, 59] [0, 1, 2, 3, 4, 5, 6, 7, 8, 9, 10, 11, 12, 13, 14, 15, 16, 17, 18, 19, 20, 21, 22, 23, 24, 25, 26, 27, 28, 29, 30, 31, 32, 33, 34, 35, 36, 37, 38, 39, 40, 41, 42, 43, 44] [0, 1, 2, 3, 4, 5, 6, 7, 8, 9, 10, 11, 12, 13, 14, 15, 16, 17, 18, 19, 20, 21, 22, 23, 24, 25, 26, 27, 28, 29, 30, 31, 32, 33, 34, 35, 36, 37, 38, 39, 40, 41, 42, 43, 44, 45, 46, 47, 48, 49, 50, 51, 52, 53, 54, 55, 56, 57, 58, 59] (cH hh hc hi hj hs ht wh370 ++ (cC cy hc ac wc370 ++ (cC cy hi ai wi ++ (cC cy hj aj wj ++ (cS hs ws370 ++ (cT ht wt)))))) (fun u => (cH hh hc hi hj hs ht wh370 ++ (cC cy hc ac wc370 ++ (cC cy hi ai wi ++ (cC cy hj aj wj ++ (cS hs ws370 ++ (cT ht wt ++ (cM cy cz hm am u)))))))) rfl rfl (by decide) (by decide) (by decide) (fun u => rfl) (fun r374 u9 H locs hq hW => ?_)
  obtain ⟨wm374, rfl⟩ : ∃ z, z = u9 := ⟨_, rfl⟩
  try dsimp only at hq hW
  refine lv_icmp_eq (tgt := 570) hC.x hC.b dL_law_377 (by decide) (fun hc9 => ?_) (fun hc9 => ?_)
  · replace hq := hq.1 hc9
    exact B_L_law_570 hh hc hi hj hs ht ac ai aj hm am b L xs hX K18 hK18 hC x3 wh370 wc370 wi wj ws370 wt wm374 hq hW (lv_sub hl [0, 1, 2, 3] rfl)
  · replace hq := hq.2 hc9
    refine lv_iconst (v := 0) hC.x hC.b dL_law_380 (by decide) ?_
    exact absurd hq (by decide)
def k_L_law_178 (K18 : (Int32 × Wd × Wd × Wd × Wd × Wd × Wd × Wd) → Prop) (L : Nat) (xs : Nat → Int32) (x3 : Int32) (wh : Wd) (wc : Wd) (wi : Wd) (wj : Wd) (ws : Wd) (wt : Wd) (wm : Wd) : Prop :=
 (k_X3_off wh wc (fun r179 wh179 wc179 => (k_X4_off wm (fun r183 wm183 => ((r179 = r183 → (k_L_law_570 K18 L xs x3 wh179 wc179 wi wj ws wt wm183)) ∧
 (¬ r179 = r183 → ((0 : Int32) = 1)))))))
set_option maxHeartbeats 4000000 in
set_option maxRecDepth 100000 in
theorem B_L_law_178 {l : Launch} {p : Program} {e : Env} {s : State} {m : MethodId} {below : List Frame} {meth : Method} {c : Code} {A : Nat → Prop} {D : va_G} {cy cz : ClassId} {t1 t2 : Nat} (hh : Nat) (hc : Nat) (hi : Nat) (hj : Nat) (hs : Nat) (ht : Nat) (ac : Nat → Nat) (ai : Nat → Nat) (aj : Nat → Nat) (hm : Nat) (am : Nat → Nat) (b L : Nat) (xs : Nat → Int32) (hX : LwX b L xs s A) (K18 : (Int32 × Wd × Wd × Wd × Wd × Wd × Wd × Wd) → Prop) (hK18 : ∀ b9 : Int32 × Wd × Wd × Wd × Wd × Wd × Wd × Wd, K18 b9 → ∀ (H : Heap) (locs : List Loc) (ls : Array Slot), Wo D A s (cH hh hc hi hj hs ht b9.2.1 ++ (cC cy hc ac b9.2.2.1 ++ (cC cy hi ai b9.2.2.2.1 ++ (cC cy hj aj b9.2.2.2.2.1 ++ (cS hs b9.2.2.2.2.2.1 ++ (cT ht b9.2.2.2.2.2.2.1 ++ (cM cy cz hm am b9.2.2.2.2.2.2.2))))))) H locs → lv_has ls 4 [(0, .ref b), (1, .ref hh), (2, .ref hm), (3, .int b9.1)] → W p l e room_1 s m #[Value.ref b] below meth c H locs 60 1638 (lw_Z below #[Value.ref b] s) (F0 m 18 ls [])) (hC : Cx D cy cz t1 t2 p s m #[Value.ref b] meth c cL_law 4 ret RL A) (x3 : Int32) (wh : Wd) (wc : Wd) (wi : Wd) (wj : Wd) (ws : Wd) (wt : Wd) (wm : Wd) {H : Heap} {locs : List Loc} {ls : Array Slot} (hq : k_L_law_178 K18 L xs x3 wh wc wi wj ws wt wm) (hW : Wo D A s (cH hh hc hi hj hs ht wh ++ (cC cy hc ac wc ++ (cC cy hi ai wi ++ (cC cy hj aj wj ++ (cS hs ws ++ (cT ht wt ++ (cM cy cz hm am wm))))))) H locs) (hl : lv_has ls 4 [(0, .ref b), (1, .ref hh), (2, .ref hm), (3, .int x3)]) : W p l e room_1 s m #[Value.ref b] below meth c H locs 60 1638 (lw_Z below #[Value.ref b] s) (F0 m 178 ls []) := by
  unfold k_L_law_178 at hq
  refine lv_aload_n hC.x hC.b dL_law_178 rfl (lv_at hl 1 rfl) ?_
  refine hc_goI hC hW (hc_rV hC (c_X3_off l D cy cz t1 t2 hh hc hi hj hs ht ac wh wc _ hq) (hc_preS hC hW [0, 1, 2, 3, 4, 5, 6, 7, 8, 9, 10, 11, 12, 13, 14] rfl rfl) hW 0 3 rfl rfl q_233 q_234 q_235 q_2 q_236 hd_X3_off ⟨rfl, rfl⟩ ⟨Nat.le_of_ble_eq_true rfl, Nat.le_of_ble_eq_true rfl⟩ rfl hl.1 rfl (Nat.le_of_ble_eq_true rfl) dL_law_179 ⟨Nat.le_of_ble_eq_true rfl, Nat.le_of_ble_eq_true rfl⟩) [0, 1, 2, 3, 4, 5, 6, 7, 8, 9, 10, 11, 12, 13, 14] [15, 16, 17, 18, 19, 20, 21, 22, 23, 24, 25, 26, 27, 28, 29, 30, 31, 32, 33, 34, 35, 36, 37, 38, 39, 40, 41, 42, 43, 44, 45, 46, 47, 48, 49, 50, 51, 52, 53, 54, 55, 56, 57, 58, 59] [45, 46, 47, 48, 49, 50, 51, 52, 53, 54, 55, 56, 57, 58, 59, 0, 1, 2, 3, 4, 5, 6, 7, 8, 9, 10, 11, 12, 13, 14, 15, 16, 17, 18, 19, 20, 21, 22, 23, 24, 25, 26, 27, 28, 29, 30, 31, 32, 33, 34, 35, 36, 37, 38, 39, 40, 41, 42, 43, 44] (cC cy hi ai wi ++ (cC cy hj aj wj ++ (cS hs ws ++ (cT ht wt ++ (cM cy cz hm am wm))))) (fun u => (cH hh hc hi hj hs ht u.1 ++ (cC cy hc ac u.2 ++ (cC cy hi ai wi ++ (cC cy hj aj wj ++ (cS hs ws ++ (cT ht wt ++ (cM cy cz hm am wm)))))))) rfl rfl (by decide) (by decide) (by decide) (fun u => rfl) (fun r179 u9 H locs hq hW => ?_)
  obtain ⟨wh179, wc179⟩ := u9
  try dsimp only at hq hW
  refine lv_aload_n hC.x hC.b dL_law_182 rfl (lv_at hl 2 rfl) ?_
  refine hc_goI hC hW (hc_rV hC (c_X4_off l D cy cz t1 t2 hm am wm _ hq) (hc_preS hC hW [45, 46, 47, 48, 49, 50, 51, 52, 53, 54, 55, 56, 57, 58, 59] rfl rfl) hW 45 4 rfl rfl q_241 q_242 q_243 q_5 q_244 hd_X4_off ⟨rfl, rfl⟩ ⟨Nat.le_of_ble_eq_true rfl, Nat.le_of_ble_eq_true rfl⟩ rfl hl.1 rfl (Nat.le_of_ble_eq_true rfl) dL_law_183 ⟨Nat.le_of_ble_eq_true rfl, Nat.le_of_ble_eq_true rfl⟩) [45, 46, 47, 48, 49, 50, 51, 52, 53, 54, 55, 56, 57, 58, 59] [0, 1, 2, 3, 4, 5, 6, 7, 8, 9, 10, 11, 12, 13, 14, 15, 16, 17, 18, 19, 20, 21, 22, 23, 24, 25, 26, 27, 28, 29, 30, 31, 32, 33, 34, 35, 36, 37, 38, 39, 40, 41, 42, 43, 44] [0, 1, 2, 3, 4, 5, 6, 7, 8, 9, 10, 11, 12, 13, 14, 15, 16, 17, 18, 19, 20, 21, 22, 23, 24, 25, 26, 27, 28, 29, 30, 31, 32, 33, 34, 35, 36, 37, 38, 39, 40, 41, 42, 43, 44, 45, 46, 47, 48, 49, 50, 51, 52, 53, 54, 55, 56, 57, 58, 59] (cH hh hc hi hj hs ht wh179 ++ (cC cy hc ac wc179 ++ (cC cy hi ai wi ++ (cC cy hj aj wj ++ (cS hs ws ++ (cT ht wt)))))) (fun u => (cH hh hc hi hj hs ht wh179 ++ (cC cy hc ac wc179 ++ (cC cy hi ai wi ++ (cC cy hj aj wj ++ (cS hs ws ++ (cT ht wt ++ (cM cy cz hm am u)))))))) rfl rfl (by decide) (by decide) (by decide) (fun u => rfl) (fun r183 u9 H locs hq hW => ?_)
  obtain ⟨wm183, rfl⟩ : ∃ z, z = u9 := ⟨_, rfl⟩
  try dsimp only at hq hW
  refine lv_icmp_eq (tgt := 570) hC.x hC.b dL_law_186 (by decide) (fun hc9 => ?_) (fun hc9 => ?_)
  · replace hq := hq.1 hc9
    exact B_L_law_570 hh hc hi hj hs ht ac ai aj hm am b L xs hX K18 hK18 hC x3 wh179 wc179 wi wj ws wt wm183 hq hW (lv_sub hl [0, 1, 2, 3] rfl)
  · replace hq := hq.2 hc9
    refine lv_iconst (v := 0) hC.x hC.b dL_law_189 (by decide) ?_
    exact absurd hq (by decide)
def k_L_law_501 (K18 : (Int32 × Wd × Wd × Wd × Wd × Wd × Wd × Wd) → Prop) (L : Nat) (xs : Nat → Int32) (x3 : Int32) (wh : Wd) (wc : Wd) (wi : Wd) (wj : Wd) (ws : Wd) (wt : Wd) (wm : Wd) : Prop :=
 (vp_in (x3 + 1) L ∧ (k_X3_image (xs ((x3 + 1)).toNatClampNeg) wh wc wi wj (fun r507 wh507 wc507 wi507 wj507 => (vp_in (x3 + 1) L ∧ (k_X4_image (xs ((x3 + 1)).toNatClampNeg) wm (fun r516 wm516 => ((r507 = r516 → (k_L_law_570 K18 L xs x3 wh507 wc507 wi507 wj507 ws wt wm516)) ∧
 (¬ r507 = r516 → ((0 : Int32) = 1)))))))))
set_option maxHeartbeats 4000000 in
set_option maxRecDepth 100000 in
theorem B_L_law_501 {l : Launch} {p : Program} {e : Env} {s : State} {m : MethodId} {below : List Frame} {meth : Method} {c : Code} {A : Nat → Prop} {D : va_G} {cy cz : ClassId} {t1 t2 : Nat} (hh : Nat) (hc : Nat) (hi : Nat) (hj : Nat) (hs : Nat) (ht : Nat) (ac : Nat → Nat) (ai : Nat → Nat) (aj : Nat → Nat) (hm : Nat) (am : Nat → Nat) (b L : Nat) (xs : Nat → Int32) (hX : LwX b L xs s A) (K18 : (Int32 × Wd × Wd × Wd × Wd × Wd × Wd × Wd) → Prop) (hK18 : ∀ b9 : Int32 × Wd × Wd × Wd × Wd × Wd × Wd × Wd, K18 b9 → ∀ (H : Heap) (locs : List Loc) (ls : Array Slot), Wo D A s (cH hh hc hi hj hs ht b9.2.1 ++ (cC cy hc ac b9.2.2.1 ++ (cC cy hi ai b9.2.2.2.1 ++ (cC cy hj aj b9.2.2.2.2.1 ++ (cS hs b9.2.2.2.2.2.1 ++ (cT ht b9.2.2.2.2.2.2.1 ++ (cM cy cz hm am b9.2.2.2.2.2.2.2))))))) H locs → lv_has ls 4 [(0, .ref b), (1, .ref hh), (2, .ref hm), (3, .int b9.1)] → W p l e room_1 s m #[Value.ref b] below meth c H locs 60 1638 (lw_Z below #[Value.ref b] s) (F0 m 18 ls [])) (hC : Cx D cy cz t1 t2 p s m #[Value.ref b] meth c cL_law 4 ret RL A) (x3 : Int32) (wh : Wd) (wc : Wd) (wi : Wd) (wj : Wd) (ws : Wd) (wt : Wd) (wm : Wd) {H : Heap} {locs : List Loc} {ls : Array Slot} (hq : k_L_law_501 K18 L xs x3 wh wc wi wj ws wt wm) (hW : Wo D A s (cH hh hc hi hj hs ht wh ++ (cC cy hc ac wc ++ (cC cy hi ai wi ++ (cC cy hj aj wj ++ (cS hs ws ++ (cT ht wt ++ (cM cy cz hm am wm))))))) H locs) (hl : lv_has ls 4 [(0, .ref b), (1, .ref hh), (2, .ref hm), (3, .int x3)]) : W p l e room_1 s m #[Value.ref b] below meth c H locs 60 1638 (lw_Z below #[Value.ref b] s) (F0 m 501 ls []) := by
  unfold k_L_law_501 at hq
  refine lv_aload_n hC.x hC.b dL_law_501 rfl (lv_at hl 1 rfl) ?_
  refine lv_aload_n hC.x hC.b dL_law_502 rfl (lv_at hl 0 rfl) ?_
  refine lv_iload_n hC.x hC.b dL_law_503 rfl (lv_at hl 3 rfl) ?_
  refine lv_iconst (v := 1) hC.x hC.b dL_law_504 (by decide) ?_
  refine lv_iadd hC.x hC.b dL_law_505 ?_
  refine va_sld hC.x hC.b hX.1 hX.2.1 hX.2.2.1 hW.2.2 hq.1 dL_law_506 ?_
  replace hq := hq.2
  refine hc_goI hC hW (hc_rV hC (c_X3_image l D cy cz t1 t2 hh hc hi hj hs ht ac ai aj (xs ((x3 + 1)).toNatClampNeg) wh wc wi wj _ hq) (hc_preS hC hW [0, 1, 2, 3, 4, 5, 6, 7, 8, 9, 10, 11, 12, 13, 14, 15, 16, 17, 18, 19, 20, 21, 22, 23, 24, 25, 26, 27, 28, 29, 30, 31, 32, 33, 34, 35, 36, 37, 38, 39, 40, 41, 42] rfl rfl) hW 0 3 rfl rfl q_517 q_518 q_519 q_2 q_520 hd_X3_image ⟨rfl, rfl⟩ ⟨Nat.le_of_ble_eq_true rfl, Nat.le_of_ble_eq_true rfl⟩ rfl hl.1 rfl (Nat.le_of_ble_eq_true rfl) dL_law_507 ⟨Nat.le_of_ble_eq_true rfl, Nat.le_of_ble_eq_true rfl⟩) [0, 1, 2, 3, 4, 5, 6, 7, 8, 9, 10, 11, 12, 13, 14, 15, 16, 17, 18, 19, 20, 21, 22, 23, 24, 25, 26, 27, 28, 29, 30, 31, 32, 33, 34, 35, 36, 37, 38, 39, 40, 41, 42] [43, 44, 45, 46, 47, 48, 49, 50, 51, 52, 53, 54, 55, 56, 57, 58, 59] [17, 18, 19, 20, 21, 22, 23, 24, 25, 26, 27, 28, 29, 30, 31, 32, 33, 34, 35, 36, 37, 38, 39, 40, 41, 42, 43, 44, 45, 46, 47, 48, 49, 50, 51, 52, 53, 54, 55, 56, 57, 58, 59, 0, 1, 2, 3, 4, 5, 6, 7, 8, 9, 10, 11, 12, 13, 14, 15, 16] (cS hs ws ++ (cT ht wt ++ (cM cy cz hm am wm))) (fun u => (cH hh hc hi hj hs ht u.1 ++ (cC cy hc ac u.2.1 ++ (cC cy hi ai u.2.2.1 ++ (cC cy hj aj u.2.2.2 ++ (cS hs ws ++ (cT ht wt ++ (cM cy cz hm am wm)))))))) rfl rfl (by decide) (by decide) (by decide) (fun u => rfl) (fun r507 u9 H locs hq hW => ?_)
  obtain ⟨wh507, wc507, wi507, wj507⟩ := u9
  try dsimp only at hq hW
  refine lv_aload_n hC.x hC.b dL_law_510 rfl (lv_at hl 2 rfl) ?_
  refine lv_aload_n hC.x hC.b dL_law_511 rfl (lv_at hl 0 rfl) ?_
  refine lv_iload_n hC.x hC.b dL_law_512 rfl (lv_at hl 3 rfl) ?_
  refine lv_iconst (v := 1) hC.x hC.b dL_law_513 (by decide) ?_
  refine lv_iadd hC.x hC.b dL_law_514 ?_
  refine va_sld hC.x hC.b hX.1 hX.2.1 hX.2.2.1 hW.2.2 hq.1 dL_law_515 ?_
  replace hq := hq.2
  refine hc_goI hC hW (hc_rV hC (c_X4_image l D cy cz t1 t2 hm am (xs ((x3 + 1)).toNatClampNeg) wm _ hq) (hc_preS hC hW [45, 46, 47, 48, 49, 50, 51, 52, 53, 54, 55, 56, 57, 58, 59] rfl rfl) hW 45 4 rfl rfl q_533 q_534 q_535 q_5 q_536 hd_X4_image ⟨rfl, rfl⟩ ⟨Nat.le_of_ble_eq_true rfl, Nat.le_of_ble_eq_true rfl⟩ rfl hl.1 rfl (Nat.le_of_ble_eq_true rfl) dL_law_516 ⟨Nat.le_of_ble_eq_true rfl, Nat.le_of_ble_eq_true rfl⟩) [45, 46, 47, 48, 49, 50, 51, 52, 53, 54, 55, 56, 57, 58, 59] [0, 1, 2, 3, 4, 5, 6, 7, 8, 9, 10, 11, 12, 13, 14, 15, 16, 17, 18, 19, 20, 21, 22, 23, 24, 25, 26, 27, 28, 29, 30, 31, 32, 33, 34, 35, 36, 37, 38, 39, 40, 41, 42, 43, 44] [0, 1, 2, 3, 4, 5, 6, 7, 8, 9, 10, 11, 12, 13, 14, 15, 16, 17, 18, 19, 20, 21, 22, 23, 24, 25, 26, 27, 28, 29, 30, 31, 32, 33, 34, 35, 36, 37, 38, 39, 40, 41, 42, 43, 44, 45, 46, 47, 48, 49, 50, 51, 52, 53, 54, 55, 56, 57, 58, 59] (cH hh hc hi hj hs ht wh507 ++ (cC cy hc ac wc507 ++ (cC cy hi ai wi507 ++ (cC cy hj aj wj507 ++ (cS hs ws ++ (cT ht wt)))))) (fun u => (cH hh hc hi hj hs ht wh507 ++ (cC cy hc ac wc507 ++ (cC cy hi ai wi507 ++ (cC cy hj aj wj507 ++ (cS hs ws ++ (cT ht wt ++ (cM cy cz hm am u)))))))) rfl rfl (by decide) (by decide) (by decide) (fun u => rfl) (fun r516 u9 H locs hq hW => ?_)
  obtain ⟨wm516, rfl⟩ : ∃ z, z = u9 := ⟨_, rfl⟩
  try dsimp only at hq hW
  refine lv_icmp_eq (tgt := 570) hC.x hC.b dL_law_519 (by decide) (fun hc9 => ?_) (fun hc9 => ?_)
  · replace hq := hq.1 hc9
    exact B_L_law_570 hh hc hi hj hs ht ac ai aj hm am b L xs hX K18 hK18 hC x3 wh507 wc507 wi507 wj507 ws wt wm516 hq hW (lv_sub hl [0, 1, 2, 3] rfl)
  · replace hq := hq.2 hc9
    refine lv_iconst (v := 0) hC.x hC.b dL_law_522 (by decide) ?_
    exact absurd hq (by decide)
def k_L_law_346 (K18 : (Int32 × Wd × Wd × Wd × Wd × Wd × Wd × Wd) → Prop) (L : Nat) (xs : Nat → Int32) (x3 : Int32) (wh : Wd) (wc : Wd) (wi : Wd) (wj : Wd) (ws : Wd) (wt : Wd) (wm : Wd) : Prop :=
 (vp_in (x3 + 1) L ∧ (k_X3_greatest (xs ((x3 + 1)).toNatClampNeg) wh wc ws (fun r352 wh352 wc352 ws352 => (vp_in (x3 + 1) L ∧ (k_X4_greatest (xs ((x3 + 1)).toNatClampNeg) wm (fun r361 wm361 => ((r352 = r361 → (k_L_law_570 K18 L xs x3 wh352 wc352 wi wj ws352 wt wm361)) ∧
 (¬ r352 = r361 → ((0 : Int32) = 1)))))))))
set_option maxHeartbeats 4000000 in
set_option maxRecDepth 100000 in
theorem B_L_law_346 {l : Launch} {p : Program} {e : Env} {s : State} {m : MethodId} {below : List Frame} {meth : Method} {c : Code} {A : Nat → Prop} {D : va_G} {cy cz : ClassId} {t1 t2 : Nat} (hh : Nat) (hc : Nat) (hi : Nat) (hj : Nat) (hs : Nat) (ht : Nat) (ac : Nat → Nat) (ai : Nat → Nat) (aj : Nat → Nat) (hm : Nat) (am : Nat → Nat) (b L : Nat) (xs : Nat → Int32) (hX : LwX b L xs s A) (K18 : (Int32 × Wd × Wd × Wd × Wd × Wd × Wd × Wd) → Prop) (hK18 : ∀ b9 : Int32 × Wd × Wd × Wd × Wd × Wd × Wd × Wd, K18 b9 → ∀ (H : Heap) (locs : List Loc) (ls : Array Slot), Wo D A s (cH hh hc hi hj hs ht b9.2.1 ++ (cC cy hc ac b9.2.2.1 ++ (cC cy hi ai b9.2.2.2.1 ++ (cC cy hj aj b9.2.2.2.2.1 ++ (cS hs b9.2.2.2.2.2.1 ++ (cT ht b9.2.2.2.2.2.2.1 ++ (cM cy cz hm am b9.2.2.2.2.2.2.2))))))) H locs → lv_has ls 4 [(0, .ref b), (1, .ref hh), (2, .ref hm), (3, .int b9.1)] → W p l e room_1 s m #[Value.ref b] below meth c H locs 60 1638 (lw_Z below #[Value.ref b] s) (F0 m 18 ls [])) (hC : Cx D cy cz t1 t2 p s m #[Value.ref b] meth c cL_law 4 ret RL A) (x3 : Int32) (wh : Wd) (wc : Wd) (wi : Wd) (wj : Wd) (ws : Wd) (wt : Wd) (wm : Wd) {H : Heap} {locs : List Loc} {ls : Array Slot} (hq : k_L_law_346 K18 L xs x3 wh wc wi wj ws wt wm) (hW : Wo D A s (cH hh hc hi hj hs ht wh ++ (cC cy hc ac wc ++ (cC cy hi ai wi ++ (cC cy hj aj wj ++ (cS hs ws ++ (cT ht wt ++ (cM cy cz hm am wm))))))) H locs) (hl : lv_has ls 4 [(0, .ref b), (1, .ref hh), (2, .ref hm), (3, .int x3)]) : W p l e room_1 s m #[Value.ref b] below meth c H locs 60 1638 (lw_Z below #[Value.ref b] s) (F0 m 346 ls []) := by
  unfold k_L_law_346 at hq
  refine lv_aload_n hC.x hC.b dL_law_346 rfl (lv_at hl 1 rfl) ?_
  refine lv_aload_n hC.x hC.b dL_law_347 rfl (lv_at hl 0 rfl) ?_
  refine lv_iload_n hC.x hC.b dL_law_348 rfl (lv_at hl 3 rfl) ?_
  refine lv_iconst (v := 1) hC.x hC.b dL_law_349 (by decide) ?_
  refine lv_iadd hC.x hC.b dL_law_350 ?_
  refine va_sld hC.x hC.b hX.1 hX.2.1 hX.2.2.1 hW.2.2 hq.1 dL_law_351 ?_
  replace hq := hq.2
  refine hc_goI hC hW (hc_rV hC (c_X3_greatest l D cy cz t1 t2 hh hc hi hj hs ht ac (xs ((x3 + 1)).toNatClampNeg) wh wc ws _ hq) (hc_preS hC hW [0, 1, 2, 3, 4, 5, 6, 7, 8, 9, 10, 11, 12, 13, 14, 43] rfl rfl) hW 0 3 rfl rfl q_354 q_355 q_356 q_2 q_357 hd_X3_greatest ⟨rfl, rfl⟩ ⟨Nat.le_of_ble_eq_true rfl, Nat.le_of_ble_eq_true rfl⟩ rfl hl.1 rfl (Nat.le_of_ble_eq_true rfl) dL_law_352 ⟨Nat.le_of_ble_eq_true rfl, Nat.le_of_ble_eq_true rfl⟩) [0, 1, 2, 3, 4, 5, 6, 7, 8, 9, 10, 11, 12, 13, 14, 43] [15, 16, 17, 18, 19, 20, 21, 22, 23, 24, 25, 26, 27, 28, 29, 30, 31, 32, 33, 34, 35, 36, 37, 38, 39, 40, 41, 42, 44, 45, 46, 47, 48, 49, 50, 51, 52, 53, 54, 55, 56, 57, 58, 59] [44, 45, 46, 47, 48, 49, 50, 51, 52, 53, 54, 55, 56, 57, 58, 0, 1, 2, 3, 4, 5, 6, 7, 8, 9, 10, 11, 12, 13, 14, 15, 16, 17, 18, 19, 20, 21, 22, 23, 24, 25, 26, 27, 59, 28, 29, 30, 31, 32, 33, 34, 35, 36, 37, 38, 39, 40, 41, 42, 43] (cC cy hi ai wi ++ (cC cy hj aj wj ++ (cT ht wt ++ (cM cy cz hm am wm)))) (fun u => (cH hh hc hi hj hs ht u.1 ++ (cC cy hc ac u.2.1 ++ (cC cy hi ai wi ++ (cC cy hj aj wj ++ (cS hs u.2.2 ++ (cT ht wt ++ (cM cy cz hm am wm)))))))) rfl rfl (by decide) (by decide) (by decide) (fun u => rfl) (fun r352 u9 H locs hq hW => ?_)
  obtain ⟨wh352, wc352, ws352⟩ := u9
  try dsimp only at hq hW
  refine lv_aload_n hC.x hC.b dL_law_355 rfl (lv_at hl 2 rfl) ?_
  refine lv_aload_n hC.x hC.b dL_law_356 rfl (lv_at hl 0 rfl) ?_
  refine lv_iload_n hC.x hC.b dL_law_357 rfl (lv_at hl 3 rfl) ?_
  refine lv_iconst (v := 1) hC.x hC.b dL_law_358 (by decide) ?_
  refine lv_iadd hC.x hC.b dL_law_359 ?_
  refine va_sld hC.x hC.b hX.1 hX.2.1 hX.2.2.1 hW.2.2 hq.1 dL_law_360 ?_
  replace hq := hq.2
  refine hc_goI hC hW (hc_rV hC (c_X4_greatest l D cy cz t1 t2 hm am (xs ((x3 + 1)).toNatClampNeg) wm _ hq) (hc_preS hC hW [45, 46, 47, 48, 49, 50, 51, 52, 53, 54, 55, 56, 57, 58, 59] rfl rfl) hW 45 4 rfl rfl q_362 q_363 q_364 q_5 q_365 hd_X4_greatest ⟨rfl, rfl⟩ ⟨Nat.le_of_ble_eq_true rfl, Nat.le_of_ble_eq_true rfl⟩ rfl hl.1 rfl (Nat.le_of_ble_eq_true rfl) dL_law_361 ⟨Nat.le_of_ble_eq_true rfl, Nat.le_of_ble_eq_true rfl⟩) [45, 46, 47, 48, 49, 50, 51, 52, 53, 54, 55, 56, 57, 58, 59] [0, 1, 2, 3, 4, 5, 6, 7, 8, 9, 10, 11, 12, 13, 14, 15, 16, 17, 18, 19, 20, 21, 22, 23, 24, 25, 26, 27, 28, 29, 30, 31, 32, 33, 34, 35, 36, 37, 38, 39, 40, 41, 42, 43, 44] [0, 1, 2, 3, 4, 5, 6, 7, 8, 9, 10, 11, 12, 13, 14, 15, 16, 17, 18, 19, 20, 21, 22, 23, 24, 25, 26, 27, 28, 29, 30, 31, 32, 33, 34, 35, 36, 37, 38, 39, 40, 41, 42, 43, 44, 45, 46, 47, 48, 49, 50, 51, 52, 53, 54, 55, 56, 57, 58, 59] (cH hh hc hi hj hs ht wh352 ++ (cC cy hc ac wc352 ++ (cC cy hi ai wi ++ (cC cy hj aj wj ++ (cS hs ws352 ++ (cT ht wt)))))) (fun u => (cH hh hc hi hj hs ht wh352 ++ (cC cy hc ac wc352 ++ (cC cy hi ai wi ++ (cC cy hj aj wj ++ (cS hs ws352 ++ (cT ht wt ++ (cM cy cz hm am u)))))))) rfl rfl (by decide) (by decide) (by decide) (fun u => rfl) (fun r361 u9 H locs hq hW => ?_)
  obtain ⟨wm361, rfl⟩ : ∃ z, z = u9 := ⟨_, rfl⟩
  try dsimp only at hq hW
  refine lv_icmp_eq (tgt := 570) hC.x hC.b dL_law_364 (by decide) (fun hc9 => ?_) (fun hc9 => ?_)
  · replace hq := hq.1 hc9
    exact B_L_law_570 hh hc hi hj hs ht ac ai aj hm am b L xs hX K18 hK18 hC x3 wh352 wc352 wi wj ws352 wt wm361 hq hW (lv_sub hl [0, 1, 2, 3] rfl)
  · replace hq := hq.2 hc9
    refine lv_iconst (v := 0) hC.x hC.b dL_law_367 (by decide) ?_
    exact absurd hq (by decide)
def k_L_law_382 (K18 : (Int32 × Wd × Wd × Wd × Wd × Wd × Wd × Wd) → Prop) (L : Nat) (xs : Nat → Int32) (x3 : Int32) (wh : Wd) (wc : Wd) (wi : Wd) (wj : Wd) (ws : Wd) (wt : Wd) (wm : Wd) : Prop :=
 (vp_in (x3 + 1) L ∧ (vp_in (x3 + 2) L ∧ (k_X3_view (xs ((x3 + 1)).toNatClampNeg) (xs ((x3 + 2)).toNatClampNeg) wh wc (fun r393 wh393 wc393 => (vp_in (x3 + 1) L ∧ (vp_in (x3 + 2) L ∧ (k_X4_view (xs ((x3 + 1)).toNatClampNeg) (xs ((x3 + 2)).toNatClampNeg) wm (fun r407 wm407 => ((r393 = r407 → (k_L_law_570 K18 L xs x3 wh393 wc393 wi wj ws wt wm407)) ∧
 (¬ r393 = r407 → ((0 : Int32) = 1)))))))))))
set_option maxHeartbeats 4000000 in
set_option maxRecDepth 100000 in
theorem B_L_law_382 {l : Launch} {p : Program} {e : Env} {s : State} {m : MethodId} {below : List Frame} {meth : Method} {c : Code} {A : Nat → Prop} {D : va_G} {cy cz : ClassId} {t1 t2 : Nat} (hh : Nat) (hc : Nat) (hi : Nat) (hj : Nat) (hs : Nat) (ht : Nat) (ac : Nat → Nat) (ai : Nat → Nat) (aj : Nat → Nat) (hm : Nat) (am : Nat → Nat) (b L : Nat) (xs : Nat → Int32) (hX : LwX b L xs s A) (K18 : (Int32 × Wd × Wd × Wd × Wd × Wd × Wd × Wd) → Prop) (hK18 : ∀ b9 : Int32 × Wd × Wd × Wd × Wd × Wd × Wd × Wd, K18 b9 → ∀ (H : Heap) (locs : List Loc) (ls : Array Slot), Wo D A s (cH hh hc hi hj hs ht b9.2.1 ++ (cC cy hc ac b9.2.2.1 ++ (cC cy hi ai b9.2.2.2.1 ++ (cC cy hj aj b9.2.2.2.2.1 ++ (cS hs b9.2.2.2.2.2.1 ++ (cT ht b9.2.2.2.2.2.2.1 ++ (cM cy cz hm am b9.2.2.2.2.2.2.2))))))) H locs → lv_has ls 4 [(0, .ref b), (1, .ref hh), (2, .ref hm), (3, .int b9.1)] → W p l e room_1 s m #[Value.ref b] below meth c H locs 60 1638 (lw_Z below #[Value.ref b] s) (F0 m 18 ls [])) (hC : Cx D cy cz t1 t2 p s m #[Value.ref b] meth c cL_law 4 ret RL A) (x3 : Int32) (wh : Wd) (wc : Wd) (wi : Wd) (wj : Wd) (ws : Wd) (wt : Wd) (wm : Wd) {H : Heap} {locs : List Loc} {ls : Array Slot} (hq : k_L_law_382 K18 L xs x3 wh wc wi wj ws wt wm) (hW : Wo D A s (cH hh hc hi hj hs ht wh ++ (cC cy hc ac wc ++ (cC cy hi ai wi ++ (cC cy hj aj wj ++ (cS hs ws ++ (cT ht wt ++ (cM cy cz hm am wm))))))) H locs) (hl : lv_has ls 4 [(0, .ref b), (1, .ref hh), (2, .ref hm), (3, .int x3)]) : W p l e room_1 s m #[Value.ref b] below meth c H locs 60 1638 (lw_Z below #[Value.ref b] s) (F0 m 382 ls []) := by
  unfold k_L_law_382 at hq
  refine lv_aload_n hC.x hC.b dL_law_382 rfl (lv_at hl 1 rfl) ?_
  refine lv_aload_n hC.x hC.b dL_law_383 rfl (lv_at hl 0 rfl) ?_
  refine lv_iload_n hC.x hC.b dL_law_384 rfl (lv_at hl 3 rfl) ?_
  refine lv_iconst (v := 1) hC.x hC.b dL_law_385 (by decide) ?_
  refine lv_iadd hC.x hC.b dL_law_386 ?_
  refine va_sld hC.x hC.b hX.1 hX.2.1 hX.2.2.1 hW.2.2 hq.1 dL_law_387 ?_
  replace hq := hq.2
  refine lv_aload_n hC.x hC.b dL_law_388 rfl (lv_at hl 0 rfl) ?_
  refine lv_iload_n hC.x hC.b dL_law_389 rfl (lv_at hl 3 rfl) ?_
  refine lv_iconst (v := 2) hC.x hC.b dL_law_390 (by decide) ?_
  refine lv_iadd hC.x hC.b dL_law_391 ?_
  refine va_sld hC.x hC.b hX.1 hX.2.1 hX.2.2.1 hW.2.2 hq.1 dL_law_392 ?_
  replace hq := hq.2
  refine hc_goI hC hW (hc_rV hC (c_X3_view l D cy cz t1 t2 hh hc hi hj hs ht ac (xs ((x3 + 1)).toNatClampNeg) (xs ((x3 + 2)).toNatClampNeg) wh wc _ hq) (hc_preS hC hW [0, 1, 2, 3, 4, 5, 6, 7, 8, 9, 10, 11, 12, 13, 14] rfl rfl) hW 0 3 rfl rfl q_394 q_395 q_396 q_2 q_397 hd_X3_view ⟨rfl, rfl⟩ ⟨Nat.le_of_ble_eq_true rfl, Nat.le_of_ble_eq_true rfl⟩ rfl hl.1 rfl (Nat.le_of_ble_eq_true rfl) dL_law_393 ⟨Nat.le_of_ble_eq_true rfl, Nat.le_of_ble_eq_true rfl⟩) [0, 1, 2, 3, 4, 5, 6, 7, 8, 9, 10, 11, 12, 13, 14] [15, 16, 17, 18, 19, 20, 21, 22, 23, 24, 25, 26, 27, 28, 29, 30, 31, 32, 33, 34, 35, 36, 37, 38, 39, 40, 41, 42, 43, 44, 45, 46, 47, 48, 49, 50, 51, 52, 53, 54, 55, 56, 57, 58, 59] [45, 46, 47, 48, 49, 50, 51, 52, 53, 54, 55, 56, 57, 58, 59, 0, 1, 2, 3, 4, 5, 6, 7, 8, 9, 10, 11, 12, 13, 14, 15, 16, 17, 18, 19, 20, 21, 22, 23, 24, 25, 26, 27, 28, 29, 30, 31, 32, 33, 34, 35, 36, 37, 38, 39, 40, 41, 42, 43, 44] (cC cy hi ai wi ++ (cC cy hj aj wj ++ (cS hs ws ++ (cT ht wt ++ (cM cy cz hm am wm))))) (fun u => (cH hh hc hi hj hs ht u.1 ++ (cC cy hc ac u.2 ++ (cC cy hi ai wi ++ (cC cy hj aj wj ++ (cS hs ws ++ (cT ht wt ++ (cM cy cz hm am wm)))))))) rfl rfl (by decide) (by decide) (by decide) (fun u => rfl) (fun r393 u9 H locs hq hW => ?_)
  obtain ⟨wh393, wc393⟩ := u9
  try dsimp only at hq hW
  refine lv_aload_n hC.x hC.b dL_law_396 rfl (lv_at hl 2 rfl) ?_
  refine lv_aload_n hC.x hC.b dL_law_397 rfl (lv_at hl 0 rfl) ?_
  refine lv_iload_n hC.x hC.b dL_law_398 rfl (lv_at hl 3 rfl) ?_
  refine lv_iconst (v := 1) hC.x hC.b dL_law_399 (by decide) ?_
  refine lv_iadd hC.x hC.b dL_law_400 ?_
  refine va_sld hC.x hC.b hX.1 hX.2.1 hX.2.2.1 hW.2.2 hq.1 dL_law_401 ?_
  replace hq := hq.2
  refine lv_aload_n hC.x hC.b dL_law_402 rfl (lv_at hl 0 rfl) ?_
  refine lv_iload_n hC.x hC.b dL_law_403 rfl (lv_at hl 3 rfl) ?_
  refine lv_iconst (v := 2) hC.x hC.b dL_law_404 (by decide) ?_
  refine lv_iadd hC.x hC.b dL_law_405 ?_
  refine va_sld hC.x hC.b hX.1 hX.2.1 hX.2.2.1 hW.2.2 hq.1 dL_law_406 ?_
  replace hq := hq.2
  refine hc_goI hC hW (hc_rV hC (c_X4_view l D cy cz t1 t2 hm am (xs ((x3 + 1)).toNatClampNeg) (xs ((x3 + 2)).toNatClampNeg) wm _ hq) (hc_preS hC hW [45, 46, 47, 48, 49, 50, 51, 52, 53, 54, 55, 56, 57, 58, 59] rfl rfl) hW 45 4 rfl rfl q_423 q_424 q_425 q_5 q_426 hd_X4_view ⟨rfl, rfl⟩ ⟨Nat.le_of_ble_eq_true rfl, Nat.le_of_ble_eq_true rfl⟩ rfl hl.1 rfl (Nat.le_of_ble_eq_true rfl) dL_law_407 ⟨Nat.le_of_ble_eq_true rfl, Nat.le_of_ble_eq_true rfl⟩) [45, 46, 47, 48, 49, 50, 51, 52, 53, 54, 55, 56, 57, 58, 59] [0, 1, 2, 3, 4, 5, 6, 7, 8, 9, 10, 11, 12, 13, 14, 15, 16, 17, 18, 19, 20, 21, 22, 23, 24, 25, 26, 27, 28, 29, 30, 31, 32, 33, 34, 35, 36, 37, 38, 39, 40, 41, 42, 43, 44] [0, 1, 2, 3, 4, 5, 6, 7, 8, 9, 10, 11, 12, 13, 14, 15, 16, 17, 18, 19, 20, 21, 22, 23, 24, 25, 26, 27, 28, 29, 30, 31, 32, 33, 34, 35, 36, 37, 38, 39, 40, 41, 42, 43, 44, 45, 46, 47, 48, 49, 50, 51, 52, 53, 54, 55, 56, 57, 58, 59] (cH hh hc hi hj hs ht wh393 ++ (cC cy hc ac wc393 ++ (cC cy hi ai wi ++ (cC cy hj aj wj ++ (cS hs ws ++ (cT ht wt)))))) (fun u => (cH hh hc hi hj hs ht wh393 ++ (cC cy hc ac wc393 ++ (cC cy hi ai wi ++ (cC cy hj aj wj ++ (cS hs ws ++ (cT ht wt ++ (cM cy cz hm am u)))))))) rfl rfl (by decide) (by decide) (by decide) (fun u => rfl) (fun r407 u9 H locs hq hW => ?_)
  obtain ⟨wm407, rfl⟩ : ∃ z, z = u9 := ⟨_, rfl⟩
  try dsimp only at hq hW
  refine lv_icmp_eq (tgt := 570) hC.x hC.b dL_law_410 (by decide) (fun hc9 => ?_) (fun hc9 => ?_)
  · replace hq := hq.1 hc9
    exact B_L_law_570 hh hc hi hj hs ht ac ai aj hm am b L xs hX K18 hK18 hC x3 wh393 wc393 wi wj ws wt wm407 hq hW (lv_sub hl [0, 1, 2, 3] rfl)
  · replace hq := hq.2 hc9
    refine lv_iconst (v := 0) hC.x hC.b dL_law_413 (by decide) ?_
    exact absurd hq (by decide)
def k_L_law_191 (K18 : (Int32 × Wd × Wd × Wd × Wd × Wd × Wd × Wd) → Prop) (L : Nat) (xs : Nat → Int32) (x3 : Int32) (wh : Wd) (wc : Wd) (wi : Wd) (wj : Wd) (ws : Wd) (wt : Wd) (wm : Wd) : Prop :=
 (vp_in (x3 + 1) L ∧ (vp_in (x3 + 2) L ∧ (vp_in (x3 + 3) L ∧ (k_X3_why (xs ((x3 + 1)).toNatClampNeg) (xs ((x3 + 2)).toNatClampNeg) (xs ((x3 + 3)).toNatClampNeg) wh wc (fun r207 wh207 wc207 => (vp_in (x3 + 1) L ∧ (vp_in (x3 + 2) L ∧ (vp_in (x3 + 3) L ∧ (k_X4_why (xs ((x3 + 1)).toNatClampNeg) (xs ((x3 + 2)).toNatClampNeg) (xs ((x3 + 3)).toNatClampNeg) wm (fun r226 wm226 => ((r207 = r226 → (k_L_law_570 K18 L xs x3 wh207 wc207 wi wj ws wt wm226)) ∧
 (¬ r207 = r226 → ((0 : Int32) = 1)))))))))))))
set_option maxHeartbeats 4000000 in
set_option maxRecDepth 100000 in
theorem B_L_law_191 {l : Launch} {p : Program} {e : Env} {s : State} {m : MethodId} {below : List Frame} {meth : Method} {c : Code} {A : Nat → Prop} {D : va_G} {cy cz : ClassId} {t1 t2 : Nat} (hh : Nat) (hc : Nat) (hi : Nat) (hj : Nat) (hs : Nat) (ht : Nat) (ac : Nat → Nat) (ai : Nat → Nat) (aj : Nat → Nat) (hm : Nat) (am : Nat → Nat) (b L : Nat) (xs : Nat → Int32) (hX : LwX b L xs s A) (K18 : (Int32 × Wd × Wd × Wd × Wd × Wd × Wd × Wd) → Prop) (hK18 : ∀ b9 : Int32 × Wd × Wd × Wd × Wd × Wd × Wd × Wd, K18 b9 → ∀ (H : Heap) (locs : List Loc) (ls : Array Slot), Wo D A s (cH hh hc hi hj hs ht b9.2.1 ++ (cC cy hc ac b9.2.2.1 ++ (cC cy hi ai b9.2.2.2.1 ++ (cC cy hj aj b9.2.2.2.2.1 ++ (cS hs b9.2.2.2.2.2.1 ++ (cT ht b9.2.2.2.2.2.2.1 ++ (cM cy cz hm am b9.2.2.2.2.2.2.2))))))) H locs → lv_has ls 4 [(0, .ref b), (1, .ref hh), (2, .ref hm), (3, .int b9.1)] → W p l e room_1 s m #[Value.ref b] below meth c H locs 60 1638 (lw_Z below #[Value.ref b] s) (F0 m 18 ls [])) (hC : Cx D cy cz t1 t2 p s m #[Value.ref b] meth c cL_law 4 ret RL A) (x3 : Int32) (wh : Wd) (wc : Wd) (wi : Wd) (wj : Wd) (ws : Wd) (wt : Wd) (wm : Wd) {H : Heap} {locs : List Loc} {ls : Array Slot} (hq : k_L_law_191 K18 L xs x3 wh wc wi wj ws wt wm) (hW : Wo D A s (cH hh hc hi hj hs ht wh ++ (cC cy hc ac wc ++ (cC cy hi ai wi ++ (cC cy hj aj wj ++ (cS hs ws ++ (cT ht wt ++ (cM cy cz hm am wm))))))) H locs) (hl : lv_has ls 4 [(0, .ref b), (1, .ref hh), (2, .ref hm), (3, .int x3)]) : W p l e room_1 s m #[Value.ref b] below meth c H locs 60 1638 (lw_Z below #[Value.ref b] s) (F0 m 191 ls []) := by
  unfold k_L_law_191 at hq
  refine lv_aload_n hC.x hC.b dL_law_191 rfl (lv_at hl 1 rfl) ?_
  refine lv_aload_n hC.x hC.b dL_law_192 rfl (lv_at hl 0 rfl) ?_
  refine lv_iload_n hC.x hC.b dL_law_193 rfl (lv_at hl 3 rfl) ?_
  refine lv_iconst (v := 1) hC.x hC.b dL_law_194 (by decide) ?_
  refine lv_iadd hC.x hC.b dL_law_195 ?_
  refine va_sld hC.x hC.b hX.1 hX.2.1 hX.2.2.1 hW.2.2 hq.1 dL_law_196 ?_
  replace hq := hq.2
  refine lv_aload_n hC.x hC.b dL_law_197 rfl (lv_at hl 0 rfl) ?_
  refine lv_iload_n hC.x hC.b dL_law_198 rfl (lv_at hl 3 rfl) ?_
  refine lv_iconst (v := 2) hC.x hC.b dL_law_199 (by decide) ?_
  refine lv_iadd hC.x hC.b dL_law_200 ?_
  refine va_sld hC.x hC.b hX.1 hX.2.1 hX.2.2.1 hW.2.2 hq.1 dL_law_201 ?_
  replace hq := hq.2
  refine lv_aload_n hC.x hC.b dL_law_202 rfl (lv_at hl 0 rfl) ?_
  refine lv_iload_n hC.x hC.b dL_law_203 rfl (lv_at hl 3 rfl) ?_
  refine lv_iconst (v := 3) hC.x hC.b dL_law_204 (by decide) ?_
  refine lv_iadd hC.x hC.b dL_law_205 ?_
  refine va_sld hC.x hC.b hX.1 hX.2.1 hX.2.2.1 hW.2.2 hq.1 dL_law_206 ?_
  replace hq := hq.2
  refine hc_goI hC hW (hc_rV hC (c_X3_why l D cy cz t1 t2 hh hc hi hj hs ht ac (xs ((x3 + 1)).toNatClampNeg) (xs ((x3 + 2)).toNatClampNeg) (xs ((x3 + 3)).toNatClampNeg) wh wc _ hq) (hc_preS hC hW [0, 1, 2, 3, 4, 5, 6, 7, 8, 9, 10, 11, 12, 13, 14] rfl rfl) hW 0 3 rfl rfl q_245 q_246 q_247 q_2 q_248 hd_X3_why ⟨rfl, rfl⟩ ⟨Nat.le_of_ble_eq_true rfl, Nat.le_of_ble_eq_true rfl⟩ rfl hl.1 rfl (Nat.le_of_ble_eq_true rfl) dL_law_207 ⟨Nat.le_of_ble_eq_true rfl, Nat.le_of_ble_eq_true rfl⟩) [0, 1, 2, 3, 4, 5, 6, 7, 8, 9, 10, 11, 12, 13, 14] [15, 16, 17, 18, 19, 20, 21, 22, 23, 24, 25, 26, 27, 28, 29, 30, 31, 32, 33, 34, 35, 36, 37, 38, 39, 40, 41, 42, 43, 44, 45, 46, 47, 48, 49, 50, 51, 52, 53, 54, 55, 56, 57, 58, 59] [45, 46, 47, 48, 49, 50, 51, 52, 53, 54, 55, 56, 57, 58, 59, 0, 1, 2, 3, 4, 5, 6, 7, 8, 9, 10, 11, 12, 13, 14, 15, 16, 17, 18, 19, 20, 21, 22, 23, 24, 25, 26, 27, 28, 29, 30, 31, 32, 33, 34, 35, 36, 37, 38, 39, 40, 41, 42, 43, 44] (cC cy hi ai wi ++ (cC cy hj aj wj ++ (cS hs ws ++ (cT ht wt ++ (cM cy cz hm am wm))))) (fun u => (cH hh hc hi hj hs ht u.1 ++ (cC cy hc ac u.2 ++ (cC cy hi ai wi ++ (cC cy hj aj wj ++ (cS hs ws ++ (cT ht wt ++ (cM cy cz hm am wm)))))))) rfl rfl (by decide) (by decide) (by decide) (fun u => rfl) (fun r207 u9 H locs hq hW => ?_)
  obtain ⟨wh207, wc207⟩ := u9
  try dsimp only at hq hW
  refine lv_aload_n hC.x hC.b dL_law_210 rfl (lv_at hl 2 rfl) ?_
  refine lv_aload_n hC.x hC.b dL_law_211 rfl (lv_at hl 0 rfl) ?_
  refine lv_iload_n hC.x hC.b dL_law_212 rfl (lv_at hl 3 rfl) ?_
  refine lv_iconst (v := 1) hC.x hC.b dL_law_213 (by decide) ?_
  refine lv_iadd hC.x hC.b dL_law_214 ?_
  refine va_sld hC.x hC.b hX.1 hX.2.1 hX.2.2.1 hW.2.2 hq.1 dL_law_215 ?_
  replace hq := hq.2
  refine lv_aload_n hC.x hC.b dL_law_216 rfl (lv_at hl 0 rfl) ?_
  refine lv_iload_n hC.x hC.b dL_law_217 rfl (lv_at hl 3 rfl) ?_
  refine lv_iconst (v := 2) hC.x hC.b dL_law_218 (by decide) ?_
  refine lv_iadd hC.x hC.b dL_law_219 ?_
  refine va_sld hC.x hC.b hX.1 hX.2.1 hX.2.2.1 hW.2.2 hq.1 dL_law_220 ?_
  replace hq := hq.2
  refine lv_aload_n hC.x hC.b dL_law_221 rfl (lv_at hl 0 rfl) ?_
  refine lv_iload_n hC.x hC.b dL_law_222 rfl (lv_at hl 3 rfl) ?_
  refine lv_iconst (v := 3) hC.x hC.b dL_law_223 (by decide) ?_
  refine lv_iadd hC.x hC.b dL_law_224 ?_
  refine va_sld hC.x hC.b hX.1 hX.2.1 hX.2.2.1 hW.2.2 hq.1 dL_law_225 ?_
  replace hq := hq.2
  refine hc_goI hC hW (hc_rV hC (c_X4_why l D cy cz t1 t2 hm am (xs ((x3 + 1)).toNatClampNeg) (xs ((x3 + 2)).toNatClampNeg) (xs ((x3 + 3)).toNatClampNeg) wm _ hq) (hc_preS hC hW [45, 46, 47, 48, 49, 50, 51, 52, 53, 54, 55, 56, 57, 58, 59] rfl rfl) hW 45 4 rfl rfl q_249 q_250 q_251 q_5 q_252 hd_X4_why ⟨rfl, rfl⟩ ⟨Nat.le_of_ble_eq_true rfl, Nat.le_of_ble_eq_true rfl⟩ rfl hl.1 rfl (Nat.le_of_ble_eq_true rfl) dL_law_226 ⟨Nat.le_of_ble_eq_true rfl, Nat.le_of_ble_eq_true rfl⟩) [45, 46, 47, 48, 49, 50, 51, 52, 53, 54, 55, 56, 57, 58, 59] [0, 1, 2, 3, 4, 5, 6, 7, 8, 9, 10, 11, 12, 13, 14, 15, 16, 17, 18, 19, 20, 21, 22, 23, 24, 25, 26, 27, 28, 29, 30, 31, 32, 33, 34, 35, 36, 37, 38, 39, 40, 41, 42, 43, 44] [0, 1, 2, 3, 4, 5, 6, 7, 8, 9, 10, 11, 12, 13, 14, 15, 16, 17, 18, 19, 20, 21, 22, 23, 24, 25, 26, 27, 28, 29, 30, 31, 32, 33, 34, 35, 36, 37, 38, 39, 40, 41, 42, 43, 44, 45, 46, 47, 48, 49, 50, 51, 52, 53, 54, 55, 56, 57, 58, 59] (cH hh hc hi hj hs ht wh207 ++ (cC cy hc ac wc207 ++ (cC cy hi ai wi ++ (cC cy hj aj wj ++ (cS hs ws ++ (cT ht wt)))))) (fun u => (cH hh hc hi hj hs ht wh207 ++ (cC cy hc ac wc207 ++ (cC cy hi ai wi ++ (cC cy hj aj wj ++ (cS hs ws ++ (cT ht wt ++ (cM cy cz hm am u)))))))) rfl rfl (by decide) (by decide) (by decide) (fun u => rfl) (fun r226 u9 H locs hq hW => ?_)
  obtain ⟨wm226, rfl⟩ : ∃ z, z = u9 := ⟨_, rfl⟩
  try dsimp only at hq hW
  refine lv_icmp_eq (tgt := 570) hC.x hC.b dL_law_229 (by decide) (fun hc9 => ?_) (fun hc9 => ?_)
  · replace hq := hq.1 hc9
    exact B_L_law_570 hh hc hi hj hs ht ac ai aj hm am b L xs hX K18 hK18 hC x3 wh207 wc207 wi wj ws wt wm226 hq hW (lv_sub hl [0, 1, 2, 3] rfl)
  · replace hq := hq.2 hc9
    refine lv_iconst (v := 0) hC.x hC.b dL_law_232 (by decide) ?_
    exact absurd hq (by decide)
def k_L_law_18 (K18 : (Int32 × Wd × Wd × Wd × Wd × Wd × Wd × Wd) → Prop) (L : Nat) (xs : Nat → Int32) (x3 : Int32) (wh : Wd) (wc : Wd) (wi : Wd) (wj : Wd) (ws : Wd) (wt : Wd) (wm : Wd) : Prop :=
 ((((Int32.ofNat L) - 4) < x3 → ((1 : Int32) = 1)) ∧
 (¬ ((Int32.ofNat L) - 4) < x3 → (vp_in x3 L ∧ ((((xs (x3).toNatClampNeg) &&& 15) = 0 → (k_L_law_112 K18 L xs x3 wh wc wi wj ws wt wm)) ∧
 (((xs (x3).toNatClampNeg) &&& 15) = 1 → (k_L_law_135 K18 L xs x3 wh wc wi wj ws wt wm)) ∧
 (((xs (x3).toNatClampNeg) &&& 15) = 2 → (k_L_law_178 K18 L xs x3 wh wc wi wj ws wt wm)) ∧
 (((xs (x3).toNatClampNeg) &&& 15) = 3 → (k_L_law_191 K18 L xs x3 wh wc wi wj ws wt wm)) ∧
 (((xs (x3).toNatClampNeg) &&& 15) = 4 → (k_L_law_234 K18 L xs x3 wh wc wi wj ws wt wm)) ∧
 (((xs (x3).toNatClampNeg) &&& 15) = 5 → (k_L_law_267 K18 L xs x3 wh wc wi wj ws wt wm)) ∧
 (((xs (x3).toNatClampNeg) &&& 15) = 6 → (k_L_law_300 K18 L xs x3 wh wc wi wj ws wt wm)) ∧
 (((xs (x3).toNatClampNeg) &&& 15) = 7 → (k_L_law_333 K18 L xs x3 wh wc wi wj ws wt wm)) ∧
 (((xs (x3).toNatClampNeg) &&& 15) = 8 → (k_L_law_346 K18 L xs x3 wh wc wi wj ws wt wm)) ∧
 (((xs (x3).toNatClampNeg) &&& 15) = 9 → (k_L_law_369 K18 L xs x3 wh wc wi wj ws wt wm)) ∧
 (((xs (x3).toNatClampNeg) &&& 15) = 10 → (k_L_law_382 K18 L xs x3 wh wc wi wj ws wt wm)) ∧
 (((xs (x3).toNatClampNeg) &&& 15) = 11 → (k_L_law_415 K18 L xs x3 wh wc wi wj ws wt wm)) ∧
 (((xs (x3).toNatClampNeg) &&& 15) = 12 → (k_L_law_458 K18 L xs x3 wh wc wi wj ws wt wm)) ∧
 (((xs (x3).toNatClampNeg) &&& 15) = 13 → (k_L_law_501 K18 L xs x3 wh wc wi wj ws wt wm)) ∧
 (((xs (x3).toNatClampNeg) &&& 15) = 14 → (k_L_law_524 K18 L xs x3 wh wc wi wj ws wt wm)) ∧
 (((xs (x3).toNatClampNeg) &&& 15) = 15 → (k_L_law_547 K18 L xs x3 wh wc wi wj ws wt wm)) ∧
 ((¬ ((xs (x3).toNatClampNeg) &&& 15) = 0 ∧ ¬ ((xs (x3).toNatClampNeg) &&& 15) = 1 ∧ ¬ ((xs (x3).toNatClampNeg) &&& 15) = 2 ∧ ¬ ((xs (x3).toNatClampNeg) &&& 15) = 3 ∧ ¬ ((xs (x3).toNatClampNeg) &&& 15) = 4 ∧ ¬ ((xs (x3).toNatClampNeg) &&& 15) = 5 ∧ ¬ ((xs (x3).toNatClampNeg) &&& 15) = 6 ∧ ¬ ((xs (x3).toNatClampNeg) &&& 15) = 7 ∧ ¬ ((xs (x3).toNatClampNeg) &&& 15) = 8 ∧ ¬ ((xs (x3).toNatClampNeg) &&& 15) = 9 ∧ ¬ ((xs (x3).toNatClampNeg) &&& 15) = 10 ∧ ¬ ((xs (x3).toNatClampNeg) &&& 15) = 11 ∧ ¬ ((xs (x3).toNatClampNeg) &&& 15) = 12 ∧ ¬ ((xs (x3).toNatClampNeg) &&& 15) = 13 ∧ ¬ ((xs (x3).toNatClampNeg) &&& 15) = 14 ∧ ¬ ((xs (x3).toNatClampNeg) &&& 15) = 15) → (k_L_law_570 K18 L xs x3 wh wc wi wj ws wt wm))))))
set_option maxHeartbeats 4000000 in
set_option maxRecDepth 100000 in
theorem B_L_law_18 {l : Launch} {p : Program} {e : Env} {s : State} {m : MethodId} {below : List Frame} {meth : Method} {c : Code} {A : Nat → Prop} {D : va_G} {cy cz : ClassId} {t1 t2 : Nat} (hh : Nat) (hc : Nat) (hi : Nat) (hj : Nat) (hs : Nat) (ht : Nat) (ac : Nat → Nat) (ai : Nat → Nat) (aj : Nat → Nat) (hm : Nat) (am : Nat → Nat) (b L : Nat) (xs : Nat → Int32) (hX : LwX b L xs s A) (K18 : (Int32 × Wd × Wd × Wd × Wd × Wd × Wd × Wd) → Prop) (hK18 : ∀ b9 : Int32 × Wd × Wd × Wd × Wd × Wd × Wd × Wd, K18 b9 → ∀ (H : Heap) (locs : List Loc) (ls : Array Slot), Wo D A s (cH hh hc hi hj hs ht b9.2.1 ++ (cC cy hc ac b9.2.2.1 ++ (cC cy hi ai b9.2.2.2.1 ++ (cC cy hj aj b9.2.2.2.2.1 ++ (cS hs b9.2.2.2.2.2.1 ++ (cT ht b9.2.2.2.2.2.2.1 ++ (cM cy cz hm am b9.2.2.2.2.2.2.2))))))) H locs → lv_has ls 4 [(0, .ref b), (1, .ref hh), (2, .ref hm), (3, .int b9.1)] → W p l e room_1 s m #[Value.ref b] below meth c H locs 60 1638 (lw_Z below #[Value.ref b] s) (F0 m 18 ls [])) (hC : Cx D cy cz t1 t2 p s m #[Value.ref b] meth c cL_law 4 ret RL A) (x3 : Int32) (wh : Wd) (wc : Wd) (wi : Wd) (wj : Wd) (ws : Wd) (wt : Wd) (wm : Wd) {H : Heap} {locs : List Loc} {ls : Array Slot} (hq : k_L_law_18 K18 L xs x3 wh wc wi wj ws wt wm) (hW : Wo D A s (cH hh hc hi hj hs ht wh ++ (cC cy hc ac wc ++ (cC cy hi ai wi ++ (cC cy hj aj wj ++ (cS hs ws ++ (cT ht wt ++ (cM cy cz hm am wm))))))) H locs) (hl : lv_has ls 4 [(0, .ref b), (1, .ref hh), (2, .ref hm), (3, .int x3)]) : W p l e room_1 s m #[Value.ref b] below meth c H locs 60 1638 (lw_Z below #[Value.ref b] s) (F0 m 18 ls []) := by
  unfold k_L_law_18 at hq
  refine lv_iload_n hC.x hC.b dL_law_18 rfl (lv_at hl 3 rfl) ?_
  refine lv_aload_n hC.x hC.b dL_law_19 rfl (lv_at hl 0 rfl) ?_
  refine va_slen hC.x hC.b hX.1 hX.2.1 hX.2.2.1 hW.2.2 dL_law_20 ?_
  refine lv_iconst (v := 4) hC.x hC.b dL_law_21 (by decide) ?_
  refine lv_isub hC.x hC.b dL_law_22 ?_
  refine lv_icmp_gt (tgt := 576) hC.x hC.b dL_law_23 (by decide) (fun hc9 => ?_) (fun hc9 => ?_)
  · replace hq := hq.1 hc9
    refine lv_iconst (v := 1) hC.x hC.b dL_law_576 (by decide) ?_
    refine va_forget (fun q hq => hX.2.2.2 _ (hW.2.2.2.2 q hq)) ?_
    exact lw_ret hC.x hC.b hC.r hC.lk dL_law_577
  · replace hq := hq.2 hc9
    refine lv_aload_n hC.x hC.b dL_law_26 rfl (lv_at hl 0 rfl) ?_
    refine lv_iload_n hC.x hC.b dL_law_27 rfl (lv_at hl 3 rfl) ?_
    refine va_sld hC.x hC.b hX.1 hX.2.1 hX.2.2.1 hW.2.2 hq.1 dL_law_28 ?_
    replace hq := hq.2
    refine lv_bipush (v := 15) hC.x hC.b dL_law_29 (by decide) ?_
    refine lv_iand hC.x hC.b dL_law_31 ?_
    by_cases hs0 : ((xs (x3).toNatClampNeg) &&& 15) = 0
    · refine lv_tableIn (tgt := 112) hC.x hC.b dL_law_32 (by rw [hs0]; decide) (by rw [hs0]; decide) (by rw [hs0]; rfl) (by decide) ?_
      replace hq := hq.1 hs0
      exact B_L_law_112 hh hc hi hj hs ht ac ai aj hm am b L xs hX K18 hK18 hC x3 wh wc wi wj ws wt wm hq hW (lv_sub hl [0, 1, 2, 3] rfl)
    by_cases hs1 : ((xs (x3).toNatClampNeg) &&& 15) = 1
    · refine lv_tableIn (tgt := 135) hC.x hC.b dL_law_32 (by rw [hs1]; decide) (by rw [hs1]; decide) (by rw [hs1]; rfl) (by decide) ?_
      replace hq := hq.2.1 hs1
      exact B_L_law_135 hh hc hi hj hs ht ac ai aj hm am b L xs hX K18 hK18 hC x3 wh wc wi wj ws wt wm hq hW (lv_sub hl [0, 1, 2, 3] rfl)
    by_cases hs2 : ((xs (x3).toNatClampNeg) &&& 15) = 2
    · refine lv_tableIn (tgt := 178) hC.x hC.b dL_law_32 (by rw [hs2]; decide) (by rw [hs2]; decide) (by rw [hs2]; rfl) (by decide) ?_
      replace hq := hq.2.2.1 hs2
      exact B_L_law_178 hh hc hi hj hs ht ac ai aj hm am b L xs hX K18 hK18 hC x3 wh wc wi wj ws wt wm hq hW (lv_sub hl [0, 1, 2, 3] rfl)
    by_cases hs3 : ((xs (x3).toNatClampNeg) &&& 15) = 3
    · refine lv_tableIn (tgt := 191) hC.x hC.b dL_law_32 (by rw [hs3]; decide) (by rw [hs3]; decide) (by rw [hs3]; rfl) (by decide) ?_
      replace hq := hq.2.2.2.1 hs3
      exact B_L_law_191 hh hc hi hj hs ht ac ai aj hm am b L xs hX K18 hK18 hC x3 wh wc wi wj ws wt wm hq hW (lv_sub hl [0, 1, 2, 3] rfl)
    by_cases hs4 : ((xs (x3).toNatClampNeg) &&& 15) = 4
    · refine lv_tableIn (tgt := 234) hC.x hC.b dL_law_32 (by rw [hs4]; decide) (by rw [hs4]; decide) (by rw [hs4]; rfl) (by decide) ?_
      replace hq := hq.2.2.2.2.1 hs4
      exact B_L_law_234 hh hc hi hj hs ht ac ai aj hm am b L xs hX K18 hK18 hC x3 wh wc wi wj ws wt wm hq hW (lv_sub hl [0, 1, 2, 3] rfl)
    by_cases hs5 : ((xs (x3).toNatClampNeg) &&& 15) = 5
    · refine lv_tableIn (tgt := 267) hC.x hC.b dL_law_32 (by rw [hs5]; decide) (by rw [hs5]; decide) (by rw [hs5]; rfl) (by decide) ?_
      replace hq := hq.2.2.2.2.2.1 hs5
      exact B_L_law_267 hh hc hi hj hs ht ac ai aj hm am b L xs hX K18 hK18 hC x3 wh wc wi wj ws wt wm hq hW (lv_sub hl [0, 1, 2, 3] rfl)
    by_cases hs6 : ((xs (x3).toNatClampNeg) &&& 15) = 6
    · refine lv_tableIn (tgt := 300) hC.x hC.b dL_law_32 (by rw [hs6]; decide) (by rw [hs6]; decide) (by rw [hs6]; rfl) (by decide) ?_
      replace hq := hq.2.2.2.2.2.2.1 hs6
      exact B_L_law_300 hh hc hi hj hs ht ac ai aj hm am b L xs hX K18 hK18 hC x3 wh wc wi wj ws wt wm hq hW (lv_sub hl [0, 1, 2, 3] rfl)
    by_cases hs7 : ((xs (x3).toNatClampNeg) &&& 15) = 7
    · refine lv_tableIn (tgt := 333) hC.x hC.b dL_law_32 (by rw [hs7]; decide) (by rw [hs7]; decide) (by rw [hs7]; rfl) (by decide) ?_
      replace hq := hq.2.2.2.2.2.2.2.1 hs7
      exact B_L_law_333 hh hc hi hj hs ht ac ai aj hm am b L xs hX K18 hK18 hC x3 wh wc wi wj ws wt wm hq hW (lv_sub hl [0, 1, 2, 3] rfl)
    by_cases hs8 : ((xs (x3).toNatClampNeg) &&& 15) = 8
    · refine lv_tableIn (tgt := 346) hC.x hC.b dL_law_32 (by rw [hs8]; decide) (by rw [hs8]; decide) (by rw [hs8]; rfl) (by decide) ?_
      replace hq := hq.2.2.2.2.2.2.2.2.1 hs8
      exact B_L_law_346 hh hc hi hj hs ht ac ai aj hm am b L xs hX K18 hK18 hC x3 wh wc wi wj ws wt wm hq hW (lv_sub hl [0, 1, 2, 3] rfl)
    by_cases hs9 : ((xs (x3).toNatClampNeg) &&& 15) = 9
    · refine lv_tableIn (tgt := 369) hC.x hC.b dL_law_32 (by rw [hs9]; decide) (by rw [hs9]; decide) (by rw [hs9]; rfl) (by decide) ?_
      replace hq := hq.2.2.2.2.2.2.2.2.2.1 hs9
      exact B_L_law_369 hh hc hi hj hs ht ac ai aj hm am b L xs hX K18 hK18 hC x3 wh wc wi wj ws wt wm hq hW (lv_sub hl [0, 1, 2, 3] rfl)
    by_cases hs10 : ((xs (x3).toNatClampNeg) &&& 15) = 10
    · refine lv_tableIn (tgt := 382) hC.x hC.b dL_law_32 (by rw [hs10]; decide) (by rw [hs10]; decide) (by rw [hs10]; rfl) (by decide) ?_
      replace hq := hq.2.2.2.2.2.2.2.2.2.2.1 hs10
      exact B_L_law_382 hh hc hi hj hs ht ac ai aj hm am b L xs hX K18 hK18 hC x3 wh wc wi wj ws wt wm hq hW (lv_sub hl [0, 1, 2, 3] rfl)
    by_cases hs11 : ((xs (x3).toNatClampNeg) &&& 15) = 11
    · refine lv_tableIn (tgt := 415) hC.x hC.b dL_law_32 (by rw [hs11]; decide) (by rw [hs11]; decide) (by rw [hs11]; rfl) (by decide) ?_
      replace hq := hq.2.2.2.2.2.2.2.2.2.2.2.1 hs11
      exact B_L_law_415 hh hc hi hj hs ht ac ai aj hm am b L xs hX K18 hK18 hC x3 wh wc wi wj ws wt wm hq hW (lv_sub hl [0, 1, 2, 3] rfl)
    by_cases hs12 : ((xs (x3).toNatClampNeg) &&& 15) = 12
    · refine lv_tableIn (tgt := 458) hC.x hC.b dL_law_32 (by rw [hs12]; decide) (by rw [hs12]; decide) (by rw [hs12]; rfl) (by decide) ?_
      replace hq := hq.2.2.2.2.2.2.2.2.2.2.2.2.1 hs12
      exact B_L_law_458 hh hc hi hj hs ht ac ai aj hm am b L xs hX K18 hK18 hC x3 wh wc wi wj ws wt wm hq hW (lv_sub hl [0, 1, 2, 3] rfl)
    by_cases hs13 : ((xs (x3).toNatClampNeg) &&& 15) = 13
    · refine lv_tableIn (tgt := 501) hC.x hC.b dL_law_32 (by rw [hs13]; decide) (by rw [hs13]; decide) (by rw [hs13]; rfl) (by decide) ?_
      replace hq := hq.2.2.2.2.2.2.2.2.2.2.2.2.2.1 hs13
      exact B_L_law_501 hh hc hi hj hs ht ac ai aj hm am b L xs hX K18 hK18 hC x3 wh wc wi wj ws wt wm hq hW (lv_sub hl [0, 1, 2, 3] rfl)
    by_cases hs14 : ((xs (x3).toNatClampNeg) &&& 15) = 14
    · refine lv_tableIn (tgt := 524) hC.x hC.b dL_law_32 (by rw [hs14]; decide) (by rw [hs14]; decide) (by rw [hs14]; rfl) (by decide) ?_
      replace hq := hq.2.2.2.2.2.2.2.2.2.2.2.2.2.2.1 hs14
      exact B_L_law_524 hh hc hi hj hs ht ac ai aj hm am b L xs hX K18 hK18 hC x3 wh wc wi wj ws wt wm hq hW (lv_sub hl [0, 1, 2, 3] rfl)
    by_cases hs15 : ((xs (x3).toNatClampNeg) &&& 15) = 15
    · refine lv_tableIn (tgt := 547) hC.x hC.b dL_law_32 (by rw [hs15]; decide) (by rw [hs15]; decide) (by rw [hs15]; rfl) (by decide) ?_
      replace hq := hq.2.2.2.2.2.2.2.2.2.2.2.2.2.2.2.1 hs15
      exact B_L_law_547 hh hc hi hj hs ht ac ai aj hm am b L xs hX K18 hK18 hC x3 wh wc wi wj ws wt wm hq hW (lv_sub hl [0, 1, 2, 3] rfl)
    refine lv_tableOut (tgt := 570) hC.x hC.b dL_law_32 (by have e0 := lv_neT (a := 0) hs0 rfl; have e1 := lv_neT (a := 1) hs1 rfl; have e2 := lv_neT (a := 2) hs2 rfl; have e3 := lv_neT (a := 3) hs3 rfl; have e4 := lv_neT (a := 4) hs4 rfl; have e5 := lv_neT (a := 5) hs5 rfl; have e6 := lv_neT (a := 6) hs6 rfl; have e7 := lv_neT (a := 7) hs7 rfl; have e8 := lv_neT (a := 8) hs8 rfl; have e9 := lv_neT (a := 9) hs9 rfl; have e10 := lv_neT (a := 10) hs10 rfl; have e11 := lv_neT (a := 11) hs11 rfl; have e12 := lv_neT (a := 12) hs12 rfl; have e13 := lv_neT (a := 13) hs13 rfl; have e14 := lv_neT (a := 14) hs14 rfl; have e15 := lv_neT (a := 15) hs15 rfl; omega) (by decide) ?_
    replace hq := hq.2.2.2.2.2.2.2.2.2.2.2.2.2.2.2.2 ⟨hs0, hs1, hs2, hs3, hs4, hs5, hs6, hs7, hs8, hs9, hs10, hs11, hs12, hs13, hs14, hs15⟩
    exact B_L_law_570 hh hc hi hj hs ht ac ai aj hm am b L xs hX K18 hK18 hC x3 wh wc wi wj ws wt wm hq hW (lv_sub hl [0, 1, 2, 3] rfl)
