/-! contracts and calls -/
abbrev rM (f n : Nat) : Room := { frames := f, cells := 0, slots := 0, locals := n }
abbrev PcC (D : va_G) (cy cz : ClassId) (t1 t2 : Nat) (av : List Value) (wc : va_W) (sz : Nat) : Array Value → State → Prop := va_Pc av (fun U => U.heap.size = sz ∧ va_P D vwCl wc U.heap ∧ va_K D vwCl (tY cy cz) U ∧ va_D (fun _ => True) wc ∧ xE t1 t2 (va_A wc sz) U)
/-- a contract: from the world wc, in every state, to QQ -/
def Ct (l : Launch) (D : va_G) (cy cz : ClassId) (t1 t2 : Nat) (y : MethodName) (cc : ByteArray) (maxL : Nat) (ret : Option FieldType) (rm : Room) (av : List Value) (wc : va_W) (QQ : (Nat → Prop) → Array Value → State → Outcome → State → Prop) : Prop :=
  ∀ sz : Nat, Met l y (.code y cc maxL ret :: gB) rm (PcC D cy cz t1 t2 av wc sz) (QQ (va_A wc sz)) 0 0 (va_A wc sz)
abbrev QI (D : va_G) {S : Type} (post : Int32 → S → Prop) (w1 : S → va_W) (A : Nat → Prop) : Array Value → State → Outcome → State → Prop := va_Qi post (fun u t => va_P D vwCl (w1 u) t.heap ∧ va_D A (w1 u)) A
abbrev QV (D : va_G) {S : Type} (post : S → Prop) (w1 : S → va_W) (A : Nat → Prop) : Array Value → State → Outcome → State → Prop := va_Qv post (fun u t => va_P D vwCl (w1 u) t.heap ∧ va_D A (w1 u)) A
theorem hc_fm {α β : Type} {f : α → Option β} : ∀ {is : List α} {ws : List β}, is.map f = ws.map some → is.filterMap f = ws
  | [], [], _ => rfl
  | [], b :: ws, h => by simp at h
  | a :: is, [], h => by simp at h
  | a :: is, b :: ws, h => by
    simp only [List.map_cons, List.cons.injEq] at h
    rw [List.filterMap_cons, h.1]
    exact congrArg (b :: ·) (hc_fm h.2)
theorem hc_rng (ws : va_W) : (List.range ws.length).map (fun i => ws[i]?) = ws.map some := by
  apply List.ext_getElem?
  intro i
  by_cases h : i < ws.length
  · simp [h]
  · simp [h]
theorem hc_ndr_aux : ∀ (l : List Nat), l.Nodup → va_nd l = true
  | [], _ => rfl
  | a :: l, h => by
    have := List.nodup_cons.mp h
    simp [va_nd, this.1, hc_ndr_aux l this.2]
theorem hc_ndr (n : Nat) : va_nd (List.range n) = true := hc_ndr_aux _ List.nodup_range
section
variable {p : Program} {l : Launch} {e : Env} {R : Room} {s : State} {m : MethodId} {args : Array Value} {below : List Frame} {meth : Method} {c : Code} {H : Heap} {locs : List Loc} {cells slots : Nat} {Q : State → Prop} {D : va_G} {cy cz : ClassId} {t1 t2 : Nat} {cc : ByteArray} {nL : Nat} {ret : Option FieldType} {own : String} {A : Nat → Prop} {ws wc : va_W} {pc : Nat} {ls : Array Slot} {rest : List Value}
theorem Ct.of {y : MethodName} {maxL : Nat} {rm : Room} {av : List Value} {QQ : (Nat → Prop) → Array Value → State → Outcome → State → Prop} (hy : plainName y.cls = true) (ho : y.cls = own) (hav : (lg_sl av).length ≤ maxL)
    (body : ∀ (p : Program) (e : Env) (s : State) (m : MethodId) (below : List Frame) (meth : Method) (c : Code) (A : Nat → Prop) (ls : Array Slot), Cx D cy cz t1 t2 p s m av.toArray meth c cc maxL ret own A → Wo D A s wc s.heap [] → lv_has ls maxL (lv_args 0 av) → W p l e rm s m av.toArray below meth c s.heap [] 0 0 (MQ below (QQ A) av.toArray s 0 0 A) (F0 m 0 ls [])) : Ct l D cy cz t1 t2 y cc maxL ret rm av wc QQ := by
  intro sz
  refine Met.ofW (cc := cc) (maxL := maxL) (ret := ret) hy rfl ?_
  intro p e s m args below meth c s₁ B hml hv
  obtain ⟨rfl, hsz, hP, hK, hD0, hE⟩ := hv
  have hown : s.vm.findClass own = some m.cls := ho ▸ findClass_of_methodNamed B.named
  subst hsz
  have hts := atoms_spec (ws := .code y cc maxL ret :: gB) B.pre
  rw [lg_entry_eq]
  exact body p e s m below meth c (va_A wc s.heap.size) _ ⟨B.exec, B.bytes, B.returns, hml, hown, fun w hw => hts w (List.mem_cons_of_mem _ hw), B.notSynchronized, hK, fun q h => Or.inr h, hE⟩ ⟨hP, hD0.self, va_S.rf⟩ (lv_entry av hav)
theorem hc_iret {S : Type} {post : Int32 → S → Prop} {w1 : S → va_W} (hC : Cx D cy cz t1 t2 p s m args meth c cc nL (some .int) own A) (u : S) (hW : Wo D A s (w1 u) H locs) {v : Int32} (hp : post v u) (hdg : decode cc pc = .ok (.ireturn, 1)) : W p l e R s m args below meth c H locs 0 0 (MQ below (QI D post w1 A) args s 0 0 A) (F0 m pc ls [.int v]) :=
  W.iret hC.x hC.b hC.r (fun t ht hw => ⟨⟨v, u, rfl, hp, by rw [ht]; exact hW.1, hW.2.1⟩, hW.2.2.F ht⟩) hW.2.2.2.2 hdg hC.lk
theorem hc_zret {S : Type} {post : Int32 → S → Prop} {w1 : S → va_W} (hC : Cx D cy cz t1 t2 p s m args meth c cc nL (some .boolean) own A) (u : S) (hW : Wo D A s (w1 u) H locs) {v : Int32} (hv : narrow .boolean (.int v) = .int v) (hp : post v u) (hdg : decode cc pc = .ok (.ireturn, 1)) : W p l e R s m args below meth c H locs 0 0 (MQ below (QI D post w1 A) args s 0 0 A) (F0 m pc ls [.int v]) :=
  W.zret hC.x hC.b hC.r hv (fun t ht hw => ⟨⟨v, u, rfl, hp, by rw [ht]; exact hW.1, hW.2.1⟩, hW.2.2.F ht⟩) hW.2.2.2.2 hdg hC.lk
theorem hc_vret {S : Type} {post : S → Prop} {w1 : S → va_W} (hC : Cx D cy cz t1 t2 p s m args meth c cc nL none own A) (u : S) (hW : Wo D A s (w1 u) H locs) (hp : post u) (hdg : decode cc pc = .ok (.return_, 1)) : W p l e R s m args below meth c H locs 0 0 (MQ below (QV D post w1 A) args s 0 0 A) (F0 m pc ls []) :=
  W.vret hC.x hC.b hC.r (fun t ht hw => ⟨⟨u, rfl, hp, by rw [ht]; exact hW.1, hW.2.1⟩, hW.2.2.F ht⟩) hW.2.2.2.2 hdg hC.lk
theorem hc_blind {av : List Value} {sz : Nat} : FrameBlind (PcC D cy cz t1 t2 av wc sz) := fun a U g mk q => by
  obtain ⟨q0, q1, qP, qK, qD, qE⟩ := q
  exact ⟨q0, q1, qP, va_K.moved (u := U) (U := U.calling g mk a) (Vm.Alike.refl U.vm) qK, qD, qE.blind⟩
theorem hc_pre0 (hC : Cx D cy cz t1 t2 p s m args meth c cc nL ret own A) (hW : Wo D A s ws H locs) (hPc : va_P D vwCl wc H) (hDc : va_D A wc) {av : List Value} : PreS s H (PcC D cy cz t1 t2 av wc H.size) av :=
  ⟨hc_blind, fun U hU hM => ⟨rfl, by rw [hU], by rw [hU]; exact hPc, va_K.moved hM.alike hC.k, hDc.weaken (fun _ _ _ _ => trivial), hC.en.move hM (fun a h1 h2 => by rw [hU]; exact hW.2.2.2.1 a h1 h2) (fun q h => h.elim (fun ⟨k, e, hk⟩ => hDc.2 k _ hk) (fun h => hC.a q (Nat.le_trans hW.2.2.1 h)))⟩⟩
theorem hc_preW (hC : Cx D cy cz t1 t2 p s m args meth c cc nL ret own A) (hW : Wo D A s ws H locs) {av : List Value} : PreS s H (PcC D cy cz t1 t2 av ws H.size) av := hc_pre0 hC hW hW.1 hW.2.1
theorem hc_preP (hC : Cx D cy cz t1 t2 p s m args meth c cc nL ret own A) (hW : Wo D A s ws H locs) {av : List Value} : PreS s H (PcC D cy cz t1 t2 av [] H.size) av := hc_pre0 hC hW (fun k q h => by simp at h) ⟨fun i j p q h => by simp at h, fun k q h => by simp at h⟩
theorem hc_preS (hC : Cx D cy cz t1 t2 p s m args meth c cc nL ret own A) (hW : Wo D A s ws H locs) (isC : List Nat) (hI : isC.map (fun i => ws[i]?) = wc.map some) (hnd : va_nd isC = true) {av : List Value} : PreS s H (PcC D cy cz t1 t2 av wc H.size) av := hc_pre0 hC hW (hW.1.sub isC (hc_fm hI)) (hW.2.1.sub isC hnd hI)
theorem hc_gw {y : MethodName} {C : String} {index : Nat} {bytes : ByteArray} {maxL : Nat} {rt : Option FieldType} (l1 : Cond.methodLink own index y ∈ gB) (l2 : Cond.instanceMethod y ∈ gB) (l3 : Cond.selects C y y ∈ gB) (l4 : Cond.initialized C ∈ gB) (l5 : Cond.code y bytes maxL rt ∈ gB) : GoodIn gB (wsV own index C y (.code y bytes maxL rt :: gB)) := by
  intro w hw
  have hw' : w ∈ gB := by
    simp only [wsV, List.mem_append, List.mem_cons, List.not_mem_nil, or_false] at hw
    rcases hw with (h | h | h | h) | (h | h)
    · exact h ▸ l1
    · exact h ▸ l2
    · exact h ▸ l3
    · exact h ▸ l4
    · exact h ▸ l5
    · exact h
  exact gB_good w hw'
theorem hc_gs {y : MethodName} {index : Nat} {bytes : ByteArray} {maxL : Nat} {rt : Option FieldType} (l1 : Cond.methodLink own index y ∈ gB) (l2 : Cond.static y ∈ gB) (l4 : Cond.initialized y.cls ∈ gB) (l5 : Cond.code y bytes maxL rt ∈ gB) : GoodIn gB (va_wsS own index y (.code y bytes maxL rt :: gB)) := by
  intro w hw
  have hw' : w ∈ gB := by
    simp only [va_wsS, List.mem_append, List.mem_cons, List.not_mem_nil, or_false] at hw
    rcases hw with (h | h | h) | (h | h)
    · exact h ▸ l1
    · exact h ▸ l2
    · exact h ▸ l4
    · exact h ▸ l5
    · exact h
  exact gB_good w hw'
theorem hc_gc {y : MethodName} {bytes : ByteArray} {maxL : Nat} {rt : Option FieldType} (l5 : Cond.code y bytes maxL rt ∈ gB) : GoodIn gB (.code y bytes maxL rt :: gB) := fun w hw => gB_good w ((List.mem_cons.mp hw).elim (fun h => h ▸ l5) id)
/-- the run of a call: of a method that an object has -/
theorem hc_rV {QQ : (Nat → Prop) → Array Value → State → Outcome → State → Prop} {y : MethodName} {bytes : ByteArray} {maxL : Nat} {rt : Option FieldType} {rm : Room} {As : List Value} {b n index : Nat} {C : String} {st0 : List Value} (hC : Cx D cy cz t1 t2 p s m args meth c cc nL ret own A) (hM : Ct l D cy cz t1 t2 y bytes maxL rt rm (.ref b :: As) wc QQ) (hp : PreS s H (PcC D cy cz t1 t2 (.ref b :: As) wc H.size) (.ref b :: As)) (hW : Wo D A s ws H locs) (q0 ci : Nat) {fs : List Value} {T : u_T} {N : Nat} (he : ws[q0]? = some (b, .inr (ci, fs))) (hc : vwCl[ci]? = some (C, T, N))
    (l1 : Cond.methodLink own index y ∈ gB) (l2 : Cond.instanceMethod y ∈ gB) (l3 : Cond.selects C y y ∈ gB) (l4 : Cond.initialized C ∈ gB) (l5 : Cond.code y bytes maxL rt ∈ gB) (hd : y.cls = C ∧ y.cls ≠ "java/lang/invoke/MethodHandle" ∧ y.cls ≠ "java/lang/invoke/VarHandle" ∧ (parseMethodDescriptor y.desc).map (fun d => d.parameters.length) = some n) (hrm : rm.cells = 0 ∧ rm.slots = 0) (hR : rm.frames + 1 ≤ R.frames ∧ 8 + (maxL + 11) + rm.locals ≤ R.locals) (hn : As.length = n) (hsz : ls.size = nL) (hst : st0 = As.reverse ++ .ref b :: rest) (hroom : (rest.map fun v => v.category).sum ≤ 8) (hdg : decode cc pc = .ok (.invokevirtual index, 3)) (hf : cells ≤ R.cells ∧ slots ≤ R.slots) :
    va_Run p l e R s m args below meth c H locs cells slots 0 0 (F0 m pc ls st0) rest (QQ (va_A wc H.size) (Value.ref b :: As).toArray) (va_A wc H.size) :=
  va_runV hC.fix (hM H.size) (cwV n hC.ts (hc_gw l1 l2 l3 l4 l5) rfl hrm.1 hrm.2 hd hR) ⟨hp.1, va_recv hC.k hW.1 hc he, hp.2⟩ rfl hn hsz hst (lv_room hroom) hdg hf
/-- of a static method -/
theorem hc_rS {QQ : (Nat → Prop) → Array Value → State → Outcome → State → Prop} {y : MethodName} {bytes : ByteArray} {maxL : Nat} {rt : Option FieldType} {rm : Room} {As : List Value} {n index : Nat} {st0 : List Value} (hC : Cx D cy cz t1 t2 p s m args meth c cc nL ret own A) (hM : Ct l D cy cz t1 t2 y bytes maxL rt rm As wc QQ) (hp : PreS s H (PcC D cy cz t1 t2 As wc H.size) As)
    (l1 : Cond.methodLink own index y ∈ gB) (l2 : Cond.static y ∈ gB) (l4 : Cond.initialized y.cls ∈ gB) (l5 : Cond.code y bytes maxL rt ∈ gB) (hd : y.cls ≠ "java/lang/invoke/MethodHandle" ∧ y.cls ≠ "java/lang/invoke/VarHandle" ∧ (parseMethodDescriptor y.desc).map (fun d => d.parameters.length) = some n) (hrm : rm.cells = 0 ∧ rm.slots = 0) (hR : rm.frames + 1 ≤ R.frames ∧ 8 + (maxL + 11) + rm.locals ≤ R.locals) (hn : As.length = n) (hsz : ls.size = nL) (hst : st0 = As.reverse ++ rest) (hroom : (rest.map fun v => v.category).sum ≤ 8) (hdg : decode cc pc = .ok (.invokestatic index, 3)) (hf : cells ≤ R.cells ∧ slots ≤ R.slots) :
    va_Run p l e R s m args below meth c H locs cells slots 0 0 (F0 m pc ls st0) rest (QQ (va_A wc H.size) As.toArray) (va_A wc H.size) :=
  va_runS hC.fix (hM H.size) (va_cwS n hC.ts (hc_gs l1 l2 l4 l5) rfl hrm.1 hrm.2 hd hR) hp rfl hn hsz hst (lv_room hroom) hdg hf
/-- of a nest mate's own static method -/
theorem hc_rN {QQ : (Nat → Prop) → Array Value → State → Outcome → State → Prop} {y : MethodName} {bytes : ByteArray} {maxL : Nat} {rt : Option FieldType} {rm : Room} {As : List Value} {n index : Nat} {host : String} {st0 : List Value} (hC : Cx D cy cz t1 t2 p s m args meth c cc nL ret own A) (hM : Ct l D cy cz t1 t2 y bytes maxL rt rm As wc QQ) (hp : PreS s H (PcC D cy cz t1 t2 As wc H.size) As)
    (l1 : va_Nw (.methodLinkNest own index y host) s) (l2 : Cond.static y ∈ gB) (l4 : Cond.initialized y.cls ∈ gB) (l5 : Cond.code y bytes maxL rt ∈ gB) (hd : y.cls ≠ "java/lang/invoke/MethodHandle" ∧ y.cls ≠ "java/lang/invoke/VarHandle" ∧ (parseMethodDescriptor y.desc).map (fun d => d.parameters.length) = some n) (hrm : rm.cells = 0 ∧ rm.slots = 0) (hR : rm.frames + 1 ≤ R.frames ∧ 8 + (maxL + 11) + rm.locals ≤ R.locals) (hn : As.length = n) (hsz : ls.size = nL) (hst : st0 = As.reverse ++ rest) (hroom : (rest.map fun v => v.category).sum ≤ 8) (hdg : decode cc pc = .ok (.invokestatic index, 3)) (hf : cells ≤ R.cells ∧ slots ≤ R.slots) :
    va_Run p l e R s m args below meth c H locs cells slots 0 0 (F0 m pc ls st0) rest (QQ (va_A wc H.size) As.toArray) (va_A wc H.size) :=
  va_runSN hC.fix (hM H.size) ⟨va_cnB n hC.ts (hc_gc l5) rfl hrm.1 hrm.2 l1 (hC.ts _ l4) hd hR, hC.ts _ l2, trivial⟩ hp rfl hn hsz hst (lv_room hroom) hdg hf
/-- what comes behind a call: the callee's world is the whole world -/
theorem hc_goIW {S : Type} {post : Int32 → S → Prop} {w1 : S → va_W} {a : Array Value} {st0 : List Value} (hC : Cx D cy cz t1 t2 p s m args meth c cc nL ret own A) (hW : Wo D A s ws H locs) (hrun : va_Run p l e R s m args below meth c H locs cells slots 0 0 (F0 m pc ls st0) rest (QI D post w1 (va_A ws H.size) a) (va_A ws H.size))
    (kk : ∀ (r : Int32) (u : S) (H1 : Heap) (locs1 : List Loc), post r u → Wo D A s (w1 u) H1 locs1 → W p l e R s m args below meth c H1 locs1 cells slots Q (F0 m (pc + 3) ls (.int r :: rest))) : W p l e R s m args below meth c H locs cells slots Q (F0 m pc ls st0) := by
  have hF : ∀ q, va_A ws H.size q → A q := fun q h => h.elim (fun ⟨k, e, hk⟩ => hW.2.1.2 k _ hk) (fun h => hC.a q (Nat.le_trans hW.2.2.1 h))
  refine va_calli hrun hW.2.2 (fun q _ h => hF q h) hF (fun r u t H1 locs1 ht hvm hp hB hz hk hS => ?_)
  exact kk r u H1 locs1 hp ⟨by rw [← ht]; exact hB.1, hB.2.weaken (fun _ q _ h => hF q.1 h), hS⟩
theorem hc_goVW {S : Type} {post : S → Prop} {w1 : S → va_W} {a : Array Value} {st0 : List Value} (hC : Cx D cy cz t1 t2 p s m args meth c cc nL ret own A) (hW : Wo D A s ws H locs) (hrun : va_Run p l e R s m args below meth c H locs cells slots 0 0 (F0 m pc ls st0) rest (QV D post w1 (va_A ws H.size) a) (va_A ws H.size))
    (kk : ∀ (u : S) (H1 : Heap) (locs1 : List Loc), post u → Wo D A s (w1 u) H1 locs1 → W p l e R s m args below meth c H1 locs1 cells slots Q (F0 m (pc + 3) ls rest)) : W p l e R s m args below meth c H locs cells slots Q (F0 m pc ls st0) := by
  have hF : ∀ q, va_A ws H.size q → A q := fun q h => h.elim (fun ⟨k, e, hk⟩ => hW.2.1.2 k _ hk) (fun h => hC.a q (Nat.le_trans hW.2.2.1 h))
  refine va_callv hrun hW.2.2 (fun q _ h => hF q h) hF (fun u t H1 locs1 ht hvm hp hB hz hk hS => ?_)
  exact kk u H1 locs1 hp ⟨by rw [← ht]; exact hB.1, hB.2.weaken (fun _ q _ h => hF q.1 h), hS⟩
/-- the callee has no world -/
theorem hc_goP {post : Int32 → Unit → Prop} {w1 : Unit → va_W} {a : Array Value} {st0 : List Value} (hC : Cx D cy cz t1 t2 p s m args meth c cc nL ret own A) (hW : Wo D A s ws H locs) (hrun : va_Run p l e R s m args below meth c H locs cells slots 0 0 (F0 m pc ls st0) rest (QI D post w1 (va_A [] H.size) a) (va_A [] H.size))
    (kk : ∀ (r : Int32) (H1 : Heap) (locs1 : List Loc), post r () → Wo D A s ws H1 locs1 → W p l e R s m args below meth c H1 locs1 cells slots Q (F0 m (pc + 3) ls (.int r :: rest))) : W p l e R s m args below meth c H locs cells slots Q (F0 m pc ls st0) := by
  have hF : ∀ q, va_A [] H.size q → A q := fun q h => h.elim (fun ⟨k, e, hk⟩ => by simp at hk) (fun h => hC.a q (Nat.le_trans hW.2.2.1 h))
  refine va_calli hrun hW.2.2 (fun q _ h => hF q h) hF (fun r u t H1 locs1 ht hvm hp hB hz hk hS => ?_)
  have hno : ∀ q : Nat, q < H.size → ¬ va_A [] H.size q := fun q hq h => h.elim (fun ⟨k, e, hk⟩ => by simp at hk) (fun h => absurd hq (Nat.not_lt.mpr h))
  obtain ⟨j1, j2⟩ := va_join (wr := ws) (wc := []) (w1 := []) (H1 := H1) hW.1 hW.2.1 [] (List.range ws.length) rfl (hc_rng ws) (hc_ndr ws.length) (fun i _ h => by simp at h) hk hF (fun k q h => by simp at h) ⟨fun i j p q h => by simp at h, fun k q h => by simp at h⟩
  rw [List.append_nil] at j1 j2
  exact kk r H1 locs1 hp ⟨j1, j2, hS⟩
/-- the callee's world is a part -/
theorem hc_goI {S : Type} {post : Int32 → S → Prop} {w1 : S → va_W} {a : Array Value} {st0 : List Value} (hC : Cx D cy cz t1 t2 p s m args meth c cc nL ret own A) (hW : Wo D A s ws H locs) (hrun : va_Run p l e R s m args below meth c H locs cells slots 0 0 (F0 m pc ls st0) rest (QI D post w1 (va_A wc H.size) a) (va_A wc H.size)) (isC isR isN : List Nat) (wr : va_W) (w2 : S → va_W) (hI : isC.map (fun i => ws[i]?) = wc.map some) (hR : isR.map (fun i => ws[i]?) = wr.map some) (hn : va_nd isR = true) (hdis : ∀ i ∈ isR, i ∉ isC) (hN : va_nd isN = true) (h2 : ∀ u, isN.map (fun i => (wr ++ w1 u)[i]?) = (w2 u).map some)
    (kk : ∀ (r : Int32) (u : S) (H1 : Heap) (locs1 : List Loc), post r u → Wo D A s (w2 u) H1 locs1 → W p l e R s m args below meth c H1 locs1 cells slots Q (F0 m (pc + 3) ls (.int r :: rest))) : W p l e R s m args below meth c H locs cells slots Q (F0 m pc ls st0) := by
  have hF := va_free (wc := wc) hW.2.1 hW.2.2 hC.a isC hI
  refine va_calli hrun hW.2.2 (fun q _ h => hF q h) hF (fun r u t H1 locs1 ht hvm hp hB hz hk hS => ?_)
  obtain ⟨hP1, hD1⟩ := hB
  rw [ht] at hP1
  obtain ⟨hP2, hD2⟩ := va_join (wr := wr) (w1 := w1 u) hW.1 hW.2.1 isC isR hI hR hn hdis hk hF hP1 hD1
  exact kk r u H1 locs1 hp ⟨hP2.sub isN (hc_fm (h2 u)), hD2.sub isN hN (h2 u), hS⟩
theorem hc_goV {S : Type} {post : S → Prop} {w1 : S → va_W} {a : Array Value} {st0 : List Value} (hC : Cx D cy cz t1 t2 p s m args meth c cc nL ret own A) (hW : Wo D A s ws H locs) (hrun : va_Run p l e R s m args below meth c H locs cells slots 0 0 (F0 m pc ls st0) rest (QV D post w1 (va_A wc H.size) a) (va_A wc H.size)) (isC isR isN : List Nat) (wr : va_W) (w2 : S → va_W) (hI : isC.map (fun i => ws[i]?) = wc.map some) (hR : isR.map (fun i => ws[i]?) = wr.map some) (hn : va_nd isR = true) (hdis : ∀ i ∈ isR, i ∉ isC) (hN : va_nd isN = true) (h2 : ∀ u, isN.map (fun i => (wr ++ w1 u)[i]?) = (w2 u).map some)
    (kk : ∀ (u : S) (H1 : Heap) (locs1 : List Loc), post u → Wo D A s (w2 u) H1 locs1 → W p l e R s m args below meth c H1 locs1 cells slots Q (F0 m (pc + 3) ls rest)) : W p l e R s m args below meth c H locs cells slots Q (F0 m pc ls st0) := by
  have hF := va_free (wc := wc) hW.2.1 hW.2.2 hC.a isC hI
  refine va_callv hrun hW.2.2 (fun q _ h => hF q h) hF (fun u t H1 locs1 ht hvm hp hB hz hk hS => ?_)
  obtain ⟨hP1, hD1⟩ := hB
  rw [ht] at hP1
  obtain ⟨hP2, hD2⟩ := va_join (wr := wr) (w1 := w1 u) hW.1 hW.2.1 isC isR hI hR hn hdis hk hF hP1 hD1
  exact kk u H1 locs1 hp ⟨hP2.sub isN (hc_fm (h2 u)), hD2.sub isN hN (h2 u), hS⟩
end
/-! loops -/
def lpf {α : Type} (F : (α → Prop) → α → Prop) : Nat → α → Prop
  | 0 => fun _ => False
  | n + 1 => F (lpf F n)
theorem lpf_use {α : Type} {F : (α → Prop) → α → Prop} {G : α → Prop} (h : ∀ K : α → Prop, (∀ b, K b → G b) → ∀ a, F K a → G a) : ∀ (n : Nat) (a : α), lpf F n a → G a
  | 0, _, x => x.elim
  | n + 1, a, x => h (lpf F n) (fun b hb => lpf_use h n b hb) a x
/-- a loop with an invariant and a measure that falls -/
theorem lpf_inv {α : Type} {F : (α → Prop) → α → Prop} (I : α → Prop) (μ : α → Nat) (h : ∀ (K : α → Prop) (a : α), I a → (∀ b, I b → μ b < μ a → K b) → F K a) : ∀ (n : Nat) (a : α), I a → μ a < n → lpf F n a
  | 0, _, _, hn => absurd hn (Nat.not_lt_zero _)
  | n + 1, a, hi, hn => h (lpf F n) a hi (fun b hb hm => lpf_inv I μ h n b hb (Nat.lt_of_lt_of_le hm (Nat.le_of_lt_succ hn)))
theorem lpf_run {α : Type} {F : (α → Prop) → α → Prop} (I : α → Prop) (μ : α → Nat) (a : α) (hi : I a) (h : ∀ (K : α → Prop) (a : α), I a → (∀ b, I b → μ b < μ a → K b) → F K a) : ∃ n, lpf F n a := ⟨_, lpf_inv I μ h _ a hi (Nat.lt_succ_self _)⟩
