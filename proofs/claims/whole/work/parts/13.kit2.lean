/-! makings: constructors, new objects and arrays; a method that answers a reference -/
def CtN (l : Launch) (D : va_G) (cy cz : ClassId) (t1 t2 : Nat) (y : MethodName) (cc : ByteArray) (maxL : Nat) (ret : Option FieldType) (rm : Room) (mc ms : Nat) (av : List Value) (wc : va_W) (QQ : (Nat → Prop) → Array Value → State → Outcome → State → Prop) : Prop :=
  ∀ sz : Nat, Met l y (.code y cc maxL ret :: gB) rm (PcC D cy cz t1 t2 av wc sz) (QQ (va_A wc sz)) mc ms (va_A wc sz)
abbrev QR (D : va_G) (post : Nat → Prop) (w0 : va_W) (A : Nat → Prop) : Array Value → State → Outcome → State → Prop := va_Qr (S := Unit) (fun _ => True) (fun _ b t => post b ∧ va_P D vwCl w0 t.heap ∧ va_D A w0) A
section
variable {p : Program} {l : Launch} {e : Env} {R : Room} {s : State} {m : MethodId} {args : Array Value} {below : List Frame} {meth : Method} {c : Code} {H : Heap} {locs : List Loc} {cells slots : Nat} {Q : State → Prop} {D : va_G} {cy cz : ClassId} {t1 t2 : Nat} {cc : ByteArray} {nL : Nat} {ret : Option FieldType} {own : String} {A : Nat → Prop} {ws wc : va_W} {pc : Nat} {ls : Array Slot} {rest : List Value}
theorem CtN.of {y : MethodName} {maxL mc ms : Nat} {rm : Room} {av : List Value} {QQ : (Nat → Prop) → Array Value → State → Outcome → State → Prop} (hy : plainName y.cls = true) (ho : y.cls = own) (hav : (lg_sl av).length ≤ maxL)
    (body : ∀ (p : Program) (e : Env) (s : State) (m : MethodId) (below : List Frame) (meth : Method) (c : Code) (A : Nat → Prop) (ls : Array Slot), Cx D cy cz t1 t2 p s m av.toArray meth c cc maxL ret own A → meth.name = y.name → Wo D A s wc s.heap [] → lv_has ls maxL (lv_args 0 av) → W p l e rm s m av.toArray below meth c s.heap [] 0 0 (MQ below (QQ A) av.toArray s mc ms A) (F0 m 0 ls [])) : CtN l D cy cz t1 t2 y cc maxL ret rm mc ms av wc QQ := by
  intro sz
  refine Met.ofW (cc := cc) (maxL := maxL) (ret := ret) hy rfl ?_
  intro p e s m args below meth c s₁ B hml hv
  obtain ⟨rfl, hsz, hP, hK, hD0, hE⟩ := hv
  have hown : s.vm.findClass own = some m.cls := ho ▸ findClass_of_methodNamed B.named
  subst hsz
  have hts := atoms_spec (ws := .code y cc maxL ret :: gB) B.pre
  rw [lg_entry_eq]
  exact body p e s m below meth c (va_A wc s.heap.size) _ ⟨B.exec, B.bytes, B.returns, hml, hown, fun w hw => hts w (List.mem_cons_of_mem _ hw), B.notSynchronized, hK, fun q h => Or.inr h, hE⟩ (name_of_methodNamed B.named B.method).1 ⟨hP, hD0.self, va_S.rf⟩ (lv_entry av hav)
theorem hc_nret {S : Type} {post : S → Prop} {w1 : S → va_W} (hC : Cx D cy cz t1 t2 p s m args meth c cc nL none own A) (u : S) (hW : Wo D A s (w1 u) H locs) (hp : post u) (hdg : decode cc pc = .ok (.return_, 1)) : W p l e R s m args below meth c H locs cells slots (MQ below (QV D post w1 A) args s cells slots A) (F0 m pc ls []) :=
  W.vret hC.x hC.b hC.r (fun t ht hw => ⟨⟨u, rfl, hp, by rw [ht]; exact hW.1, hW.2.1⟩, hW.2.2.F ht⟩) hW.2.2.2.2 hdg hC.lk
theorem hc_newI (hC : Cx D cy cz t1 t2 p s m args meth c cc nL ret own A) (hW : Wo D A s ws H locs) {n : Int32} {N' : Nat} (ha : Cond.arrayClass .int ∈ gB) (hn : ¬ n < 0) (hN : n.toNatClampNeg = N') (hbytes : N' * componentBytes .int ≤ 536870912) (hcells : cells + 1 ≤ R.cells) (hslots : slots + N' ≤ R.slots) (hdg : decode cc pc = .ok (.newarray .int, 2))
    (kk : ∀ (q : Nat) (H1 : Heap), Wo D A s (ws ++ [(q, .inl (cy, N', .inl (fun _ => 0)))]) H1 locs → W p l e R s m args below meth c H1 locs (cells + 1) (slots + N') Q (F0 m (pc + 2) ls (.ref q :: rest))) : W p l e R s m args below meth c H locs cells slots Q (F0 m pc ls (.int n :: rest)) := by
  refine va_newa (atype := .int) (ty := .int) (a0 := (N', .inl (fun _ => 0))) hC.x hC.b (hC.ts _ ha) rfl hC.k hW.1 hW.2.1 hW.2.2 hC.a (fun cA => rfl) hn hN hbytes hcells hslots hdg (fun q cA H1 k1 p1 d1 s1 => ?_)
  have e1 : cA = cy := Option.some.inj (((k1.2 2 (cA, .int) rfl).2).symm.trans ((k1.2 0 (cy, .int) rfl).2))
  rw [e1] at p1 d1
  exact kk q H1 ⟨p1, d1, s1⟩
theorem hc_newZ (hC : Cx D cy cz t1 t2 p s m args meth c cc nL ret own A) (hW : Wo D A s ws H locs) {n : Int32} {N' : Nat} (ha : Cond.arrayClass .boolean ∈ gB) (hn : ¬ n < 0) (hN : n.toNatClampNeg = N') (hbytes : N' * componentBytes .boolean ≤ 536870912) (hcells : cells + 1 ≤ R.cells) (hslots : slots + N' ≤ R.slots) (hdg : decode cc pc = .ok (.newarray .boolean, 2))
    (kk : ∀ (q : Nat) (H1 : Heap), Wo D A s (ws ++ [(q, .inl (cz, N', .inl (fun _ => 0)))]) H1 locs → W p l e R s m args below meth c H1 locs (cells + 1) (slots + N') Q (F0 m (pc + 2) ls (.ref q :: rest))) : W p l e R s m args below meth c H locs cells slots Q (F0 m pc ls (.int n :: rest)) := by
  refine va_newa (atype := .boolean) (ty := .boolean) (a0 := (N', .inl (fun _ => 0))) hC.x hC.b (hC.ts _ ha) rfl hC.k hW.1 hW.2.1 hW.2.2 hC.a (fun cA => rfl) hn hN hbytes hcells hslots hdg (fun q cA H1 k1 p1 d1 s1 => ?_)
  have e1 : cA = cz := Option.some.inj (((k1.2 2 (cA, .boolean) rfl).2).symm.trans ((k1.2 1 (cz, .boolean) rfl).2))
  rw [e1] at p1 d1
  exact kk q H1 ⟨p1, d1, s1⟩
theorem hc_putF (hC : Cx D cy cz t1 t2 p s m args meth c cc nL ret own A) (hin2 : meth.name = "<init>") (hW : Wo D A s ws H locs) (q0 ci k : Nat) {C : String} {T : u_T} {N index a : Nat} {fs : List Value} {v : Value} {ty : FieldType} {ws' : va_W} (hin : ∀ w ∈ u_ws C T N, w ∈ gB) (ty0 : Nat → FieldType) (hty : ∀ k, k < N → parseFieldDescriptor (T k).2.2.1 = some (ty0 k)) (hnm : ∀ a, a < N → ∀ b, b < N → a ≠ b → (T a).2.1 ≠ (T b).2.1) (he : ws[q0]? = some (a, .inr (ci, fs))) (hc : vwCl[ci]? = some (C, T, N)) (hk : k < N) (hlink : Cond.fieldLink own index (T k).1 (T k).2.1 (T k).2.2.1 ∈ gB) (hfin : (T k).2.2.2 = true) (hdecl : (T k).1 = own) (hd : ty0 k = ty) (hn : narrow ty v = v) (hfit : fits ty v = true) (hl : k < fs.length) (hw : ws.set q0 (a, .inr (ci, fs.set k v)) = ws') (hdg : decode cc pc = .ok (.putfield index, 3))
    (kk : ∀ (H1 : Heap) (locs1 : List Loc), Wo D A s ws' H1 locs1 → W p l e R s m args below meth c H1 locs1 cells slots Q (F0 m (pc + 3) ls rest)) : W p l e R s m args below meth c H locs cells slots Q (F0 m pc ls (v :: .ref a :: rest)) :=
  va_putF hC.x hC.b hC.ts hin ty0 hty hnm hC.ow hC.k hW.1 hW.2.1 hW.2.2 q0 he hc k hk (hC.ts _ hlink) (fun _ h => h) hfin hin2 hdecl (hd ▸ hty k hk) hn hfit hl hdg (fun H1 l1 a1 a2 a3 => kk H1 l1 ⟨hw ▸ a1, hw ▸ a2, a3⟩)
theorem hc_new (hC : Cx D cy cz t1 t2 p s m args meth c cc nL ret own A) (hW : Wo D A s ws H locs) (ci : Nat) {C : String} {T : u_T} {N index : Nat} (fs : List Value) (hin : ∀ w ∈ u_ws C T N, w ∈ gB) (ty : Nat → FieldType) (hty : ∀ k, k < N → parseFieldDescriptor (T k).2.2.1 = some (ty k)) (hcl : Cond.classLink own index C ∈ gB) (hinst : Cond.instantiable C N ∈ gB) (hini : Cond.initialized C ∈ gB) (hc : vwCl[ci]? = some (C, T, N)) (hfs : ∀ j, j < N → defaultValue (ty j) = vp_V fs j) (hcells : cells + 1 ≤ R.cells) (hslots : slots + N ≤ R.slots) (hdg : decode cc pc = .ok (.new index, 3))
    (kk : ∀ (q : Nat) (H1 : Heap), Wo D A s (ws ++ [(q, .inr (ci, fs))]) H1 locs → W p l e R s m args below meth c H1 locs (cells + 1) (slots + N) Q (F0 m (pc + 3) ls (.ref q :: rest))) : W p l e R s m args below meth c H locs cells slots Q (F0 m pc ls rest) :=
  va_new hC.x hC.b hC.ts hin ty hty hC.ow (hC.ts _ hcl) (hC.ts _ hinst) (hC.ts _ hini) hC.k hW.1 hW.2.1 hW.2.2 hC.a hc hfs hcells hslots hdg (fun q H1 a1 a2 a3 => kk q H1 ⟨a1, a2, a3⟩)
theorem hc_oinit (hC : Cx D cy cz t1 t2 p s m args meth c cc nL ret own A) {lv : List (Nat × Value)} (hl : lv_has ls nL lv) {idx a : Nat} (l1 : Cond.methodLink own idx Lib.objectInit ∈ gB) (l2 : Cond.instanceMethod Lib.objectInit ∈ gB) (l3 : Cond.code Lib.objectInit ⟨#[0xb1]⟩ 1 none ∈ gB) (hdg : decode cc pc = .ok (.invokespecial idx, 3)) (hframes : 1 ≤ R.frames) (hlocals : 2 * (F0 m pc ls (.ref a :: rest)).monitorRoom + (rest.map fun v => v.category).sum + 12 ≤ R.locals)
    (kk : W p l e R s m args below meth c H locs cells slots Q (F0 m (pc + 3) ls rest)) : W p l e R s m args below meth c H locs cells slots Q (F0 m pc ls (.ref a :: rest)) :=
  W.objInit hC.x hC.b hC.ow (hC.ts _ l1) (hC.ts _ l2) (hC.ts _ l3) rfl (hl.1.trans hC.ml.symm) rfl hdg hframes hlocals kk
theorem hc_rI {QQ : (Nat → Prop) → Array Value → State → Outcome → State → Prop} {y : MethodName} {bytes : ByteArray} {maxL mc ms : Nat} {rm : Room} {b index : Nat} {st0 : List Value} (hC : Cx D cy cz t1 t2 p s m args meth c cc nL ret own A) (hM : CtN l D cy cz t1 t2 y bytes maxL none rm mc ms [.ref b] wc QQ) (hp : PreS s H (PcC D cy cz t1 t2 [.ref b] wc H.size) [.ref b])
    (l1 : Cond.methodLink own index y ∈ gB) (l2 : Cond.instanceMethod y ∈ gB) (l4 : Cond.initialized y.cls ∈ gB) (l5 : Cond.code y bytes maxL none ∈ gB) (hy : y.name = "<init>") (hd : y.cls ≠ "java/lang/invoke/MethodHandle" ∧ y.cls ≠ "java/lang/invoke/VarHandle" ∧ (parseMethodDescriptor y.desc).map (fun d => d.parameters.length) = some 0) (hrm : rm.cells = mc ∧ rm.slots = ms) (hR : rm.frames + 1 ≤ R.frames ∧ 8 + (maxL + 11) + rm.locals ≤ R.locals) (hsz : ls.size = nL) (hst : st0 = .ref b :: rest) (hroom : (rest.map fun v => v.category).sum ≤ 8) (hdg : decode cc pc = .ok (.invokespecial index, 3)) (hf : cells + mc ≤ R.cells ∧ slots + ms ≤ R.slots) :
    va_Run p l e R s m args below meth c H locs cells slots mc ms (F0 m pc ls st0) rest (QQ (va_A wc H.size) [Value.ref b].toArray) (va_A wc H.size) :=
  va_runI (As := []) hC.fix (hM H.size) (cwI 0 hC.ts (hc_gc l5) rfl hrm.1 hrm.2 (hC.ts _ l4) (hC.ts _ l1) (hC.ts _ l2) hy hd hR) hp rfl rfl hsz hst (lv_room hroom) hdg hf
theorem hc_rIN {QQ : (Nat → Prop) → Array Value → State → Outcome → State → Prop} {y : MethodName} {bytes : ByteArray} {maxL mc ms : Nat} {rm : Room} {b index : Nat} {host : String} {st0 : List Value} (hC : Cx D cy cz t1 t2 p s m args meth c cc nL ret own A) (hM : CtN l D cy cz t1 t2 y bytes maxL none rm mc ms [.ref b] wc QQ) (hp : PreS s H (PcC D cy cz t1 t2 [.ref b] wc H.size) [.ref b])
    (l1 : va_Nw (.methodLinkNest own index y host) s) (l2 : Cond.instanceMethod y ∈ gB) (l4 : Cond.initialized y.cls ∈ gB) (l5 : Cond.code y bytes maxL none ∈ gB) (hy : y.name = "<init>") (hd : y.cls ≠ "java/lang/invoke/MethodHandle" ∧ y.cls ≠ "java/lang/invoke/VarHandle" ∧ (parseMethodDescriptor y.desc).map (fun d => d.parameters.length) = some 0) (hrm : rm.cells = mc ∧ rm.slots = ms) (hR : rm.frames + 1 ≤ R.frames ∧ 8 + (maxL + 11) + rm.locals ≤ R.locals) (hsz : ls.size = nL) (hst : st0 = .ref b :: rest) (hroom : (rest.map fun v => v.category).sum ≤ 8) (hdg : decode cc pc = .ok (.invokespecial index, 3)) (hf : cells + mc ≤ R.cells ∧ slots + ms ≤ R.slots) :
    va_Run p l e R s m args below meth c H locs cells slots mc ms (F0 m pc ls st0) rest (QQ (va_A wc H.size) [Value.ref b].toArray) (va_A wc H.size) :=
  va_runIN (As := []) hC.fix (hM H.size) ⟨va_cnB 0 hC.ts (hc_gc l5) rfl hrm.1 hrm.2 l1 (hC.ts _ l4) hd hR, hy, hC.ts _ l2⟩ hp rfl rfl hsz hst (lv_room hroom) hdg hf
theorem hc_goN {S : Type} {post : S → Prop} {w1 : S → va_W} {a : Array Value} {st0 : List Value} {mc ms : Nat} (hC : Cx D cy cz t1 t2 p s m args meth c cc nL ret own A) (hW : Wo D A s ws H locs) (hrun : va_Run p l e R s m args below meth c H locs cells slots mc ms (F0 m pc ls st0) rest (QV D post w1 (va_A wc H.size) a) (va_A wc H.size)) (isC isR : List Nat) (wr : va_W) (hI : isC.map (fun i => ws[i]?) = wc.map some) (hR : isR.map (fun i => ws[i]?) = wr.map some) (hn : va_nd isR = true) (hdis : ∀ i ∈ isR, i ∉ isC)
    (kk : ∀ (u : S) (H1 : Heap) (locs1 : List Loc), post u → Wo D A s (wr ++ w1 u) H1 locs1 → W p l e R s m args below meth c H1 locs1 (cells + mc) (slots + ms) Q (F0 m (pc + 3) ls rest)) : W p l e R s m args below meth c H locs cells slots Q (F0 m pc ls st0) := by
  have hF := va_free (wc := wc) hW.2.1 hW.2.2 hC.a isC hI
  refine va_callv hrun hW.2.2 (fun q _ h => hF q h) hF (fun u t H1 locs1 ht hvm hp hB hz hk hS => ?_)
  obtain ⟨hP1, hD1⟩ := hB
  rw [ht] at hP1
  obtain ⟨hP2, hD2⟩ := va_join (wr := wr) (w1 := w1 u) hW.1 hW.2.1 isC isR hI hR hn hdis hk hF hP1 hD1
  exact kk u H1 locs1 hp ⟨hP2, hD2, hS⟩
/-- a call that answers a reference and leaves its world as it was -/
theorem hc_goR {post : Nat → Prop} {a : Array Value} {st0 : List Value} (hC : Cx D cy cz t1 t2 p s m args meth c cc nL ret own A) (hW : Wo D A s ws H locs) (hrun : va_Run p l e R s m args below meth c H locs cells slots 0 0 (F0 m pc ls st0) rest (QR D post wc (va_A wc H.size) a) (va_A wc H.size)) (isC isR isN : List Nat) (wr : va_W) (hI : isC.map (fun i => ws[i]?) = wc.map some) (hR : isR.map (fun i => ws[i]?) = wr.map some) (hn : va_nd isR = true) (hdis : ∀ i ∈ isR, i ∉ isC) (hN : va_nd isN = true) (h2 : isN.map (fun i => (wr ++ wc)[i]?) = ws.map some)
    (kk : ∀ (b : Nat) (H1 : Heap) (locs1 : List Loc), post b → Wo D A s ws H1 locs1 → W p l e R s m args below meth c H1 locs1 cells slots Q (F0 m (pc + 3) ls (.ref b :: rest))) : W p l e R s m args below meth c H locs cells slots Q (F0 m pc ls st0) := by
  have hF := va_free (wc := wc) hW.2.1 hW.2.2 hC.a isC hI
  refine va_callr hrun hW.2.2 (fun q _ h => hF q h) hF (fun u b t H1 locs1 ht hvm hp hB hz hk hS => ?_)
  obtain ⟨hb, hP1, hD1⟩ := hB
  rw [ht] at hP1
  obtain ⟨hP2, hD2⟩ := va_join (wr := wr) (w1 := wc) hW.1 hW.2.1 isC isR hI hR hn hdis hk hF hP1 hD1
  exact kk b H1 locs1 hb ⟨hP2.sub isN (hc_fm h2), hD2.sub isN hN h2, hS⟩
theorem hc_aret {post : Nat → Prop} {w0 : va_W} (hC : Cx D cy cz t1 t2 p s m args meth c cc nL ret own A) (hrt : (∃ n, ret = some (.object n))) (hW : Wo D A s w0 H locs) {b : Nat} (hp : post b) (hdg : decode cc pc = .ok (.areturn, 1)) : W p l e R s m args below meth c H locs 0 0 (MQ below (QR D post w0 A) args s 0 0 A) (F0 m pc ls [.ref b]) := by
  obtain ⟨n, rfl⟩ := hrt
  exact W.aret hC.x hC.b hC.r (Or.inl ⟨n, rfl⟩) (Or.inr ⟨b, rfl⟩) (fun t ht hw => ⟨⟨(), b, rfl, trivial, hp, by rw [ht]; exact hW.1, hW.2.1⟩, hW.2.2.F ht⟩) hW.2.2.2.2 hdg hC.lk
end
