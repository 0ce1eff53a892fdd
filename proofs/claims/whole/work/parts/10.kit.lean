/-! My own layer: worlds as rows of numbers, contracts with a post of the writer's choice, one row a call. -/
abbrev Wd : Type := Nat → Nat → Int32
def up2 (w : Wd) (k i : Nat) (v : Int32) : Wd := fun a => if a = k then upd (w k) i v else w a
def upr (w : Wd) (k : Nat) (f : Nat → Int32) : Wd := fun a => if a = k then f else w a
abbrev tY (cy cz : ClassId) : List (ClassId × FieldType) := [(cy, .int), (cz, .boolean)]
def tabC : Nat → Int32 := fun k => match k with
  | 0 => 25 | 1 => 24 | 2 => 20 | 3 => 15 | 4 => 7 | 5 => 0 | 6 => -7 | 7 => -15 | 8 => -20 | 9 => -24 | _ => -25
def tabS : Nat → Int32 := fun k => match k with
  | 0 => 0 | 1 => 7 | 2 => 15 | 3 => 20 | 4 => 24 | 5 => 25 | 6 => 24 | 7 => 20 | 8 => 15 | 9 => 7 | _ => 0
/-- the nest mates' links -/
def xN (U : State) : Prop := va_Nw (.methodLinkNest RX3 28 yX1_init RX3) U ∧ va_Nw (.methodLinkNest RX3 35 yX2_init RX3) U ∧ va_Nw (.methodLinkNest RX0 117 yX3_isBit RX3) U ∧ va_Nw (.methodLinkNest RX0 145 yX3_isWithin RX3) U ∧ va_Nw (.methodLinkNest RX0 160 yX3_acrossOf RX3) U ∧ va_Nw (.methodLinkNest RX0 163 yX3_upOf RX3) U ∧ va_Nw (.methodLinkNest RX2 25 yX3_isStep RX3) U ∧ va_Nw (.methodLinkNest RX2 59 yX3_acrossOf RX3) U ∧ va_Nw (.methodLinkNest RX2 69 yX3_isWithin RX3) U ∧ va_Nw (.methodLinkNest RX2 73 yX3_upOf RX3) U
theorem xN.warm {s U : State} (hW : s.WarmedH U.vm) (h : xN s) : xN U := ⟨h.1.warmM hW, h.2.1.warmM hW, h.2.2.1.warmM hW, h.2.2.2.1.warmM hW, h.2.2.2.2.1.warmM hW, h.2.2.2.2.2.1.warmM hW, h.2.2.2.2.2.2.1.warmM hW, h.2.2.2.2.2.2.2.1.warmM hW, h.2.2.2.2.2.2.2.2.1.warmM hW, h.2.2.2.2.2.2.2.2.2.warmM hW⟩
theorem xN.same {s U : State} (e : s.vm = U.vm) (h : xN s) : xN U := ⟨h.1.same rfl e, h.2.1.same rfl e, h.2.2.1.same rfl e, h.2.2.2.1.same rfl e, h.2.2.2.2.1.same rfl e, h.2.2.2.2.2.1.same rfl e, h.2.2.2.2.2.2.1.same rfl e, h.2.2.2.2.2.2.2.1.same rfl e, h.2.2.2.2.2.2.2.2.1.same rfl e, h.2.2.2.2.2.2.2.2.2.same rfl e⟩
/-- what every state has beside the world: the nest mates' links, the two tables -/
def xE (t1 t2 : Nat) (A : Nat → Prop) (U : State) : Prop := xN U ∧ va_Z "HingeCards" "STEP_C" "[I" (.ref t1) A U U.heap ∧ va_T .int t1 11 (fun j => .int (tabC j)) A U U.heap ∧ va_Z "HingeCards" "STEP_S" "[I" (.ref t2) A U U.heap ∧ va_T .int t2 11 (fun j => .int (tabS j)) A U U.heap
theorem xE.move {t1 t2 : Nat} {A B : Nat → Prop} {s U : State} (h : xE t1 t2 A s) (hW : s.WarmedH U.vm) (hq : ∀ a : Nat, a < s.heap.size → ¬ A a → U.heap[a]? = s.heap[a]?) (hAB : ∀ q, B q → A q) : xE t1 t2 B U :=
  ⟨h.1.warm hW, ((h.2.1.moved hW.alike).kept hq).narrow hAB, ((h.2.2.1.moved hW.alike).kept hq).narrow hAB, ((h.2.2.2.1.moved hW.alike).kept hq).narrow hAB, ((h.2.2.2.2.moved hW.alike).kept hq).narrow hAB⟩
theorem xE.blind {t1 t2 : Nat} {A : Nat → Prop} {U : State} {g : JFrame} {mk : MethodId} {a : Array Value} (h : xE t1 t2 A U) : xE t1 t2 A (U.calling g mk a) :=
  ⟨h.1.same rfl, h.2.1.moved (U := U.calling g mk a) (Vm.Alike.refl U.vm), h.2.2.1.moved (U := U.calling g mk a) (Vm.Alike.refl U.vm), h.2.2.2.1.moved (U := U.calling g mk a) (Vm.Alike.refl U.vm), h.2.2.2.2.moved (U := U.calling g mk a) (Vm.Alike.refl U.vm)⟩
/-- what holds all through a method's walk -/
def Cx (D : va_G) (cy cz : ClassId) (t1 t2 : Nat) (p : Program) (s : State) (m : MethodId) (args : Array Value) (meth : Method) (c : Code) (cc : ByteArray) (nL : Nat) (ret : Option FieldType) (own : String) (A : Nat → Prop) : Prop :=
  p.tables.exec = Jvm.exec ∧ c.code = cc ∧ meth.sig.returnType = ret ∧ c.maxLocals = nL ∧ s.vm.findClass own = some m.cls ∧ (∀ w ∈ gB, w.before args s = true) ∧ meth.locks = false ∧ va_K D vwCl (tY cy cz) s ∧ (∀ q, s.heap.size ≤ q → A q) ∧ xE t1 t2 A s
/-- the world -/
def Wo (D : va_G) (A : Nat → Prop) (s : State) (ws : va_W) (H : Heap) (locs : List Loc) : Prop := va_P D vwCl ws H ∧ va_D A ws ∧ va_S A s.heap H locs
section
variable {p : Program} {l : Launch} {e : Env} {R : Room} {s : State} {m : MethodId} {args : Array Value} {below : List Frame} {meth : Method} {c : Code} {H : Heap} {locs : List Loc} {cells slots : Nat} {Q : State → Prop} {D : va_G} {cy cz : ClassId} {t1 t2 : Nat} {cc : ByteArray} {nL : Nat} {ret : Option FieldType} {own : String} {A : Nat → Prop} {ws : va_W} {pc : Nat} {ls : Array Slot} {rest : List Value}
theorem Cx.x (h : Cx D cy cz t1 t2 p s m args meth c cc nL ret own A) : p.tables.exec = Jvm.exec := h.1
theorem Cx.b (h : Cx D cy cz t1 t2 p s m args meth c cc nL ret own A) : c.code = cc := h.2.1
theorem Cx.r (h : Cx D cy cz t1 t2 p s m args meth c cc nL ret own A) : meth.sig.returnType = ret := h.2.2.1
theorem Cx.ml (h : Cx D cy cz t1 t2 p s m args meth c cc nL ret own A) : c.maxLocals = nL := h.2.2.2.1
theorem Cx.ow (h : Cx D cy cz t1 t2 p s m args meth c cc nL ret own A) : s.vm.findClass own = some m.cls := h.2.2.2.2.1
theorem Cx.ts (h : Cx D cy cz t1 t2 p s m args meth c cc nL ret own A) : ∀ w ∈ gB, w.before args s = true := h.2.2.2.2.2.1
theorem Cx.lk (h : Cx D cy cz t1 t2 p s m args meth c cc nL ret own A) : meth.locks = false := h.2.2.2.2.2.2.1
theorem Cx.k (h : Cx D cy cz t1 t2 p s m args meth c cc nL ret own A) : va_K D vwCl (tY cy cz) s := h.2.2.2.2.2.2.2.1
theorem Cx.a (h : Cx D cy cz t1 t2 p s m args meth c cc nL ret own A) : ∀ q, s.heap.size ≤ q → A q := h.2.2.2.2.2.2.2.2.1
theorem Cx.en (h : Cx D cy cz t1 t2 p s m args meth c cc nL ret own A) : xE t1 t2 A s := h.2.2.2.2.2.2.2.2.2
theorem Cx.fix (h : Cx D cy cz t1 t2 p s m args meth c cc nL ret own A) : CallFix p m c cc nL s args gB own := ⟨h.x, h.b, h.ml, h.ow, h.ts⟩
theorem hc_iald (hC : Cx D cy cz t1 t2 p s m args meth c cc nL ret own A) (hW : Wo D A s ws H locs) (q0 : Nat) {a n : Nat} {f : Nat → Int32} {i : Int32} (ha : ws[q0]? = some (a, .inl (cy, n, .inl f))) (hin : vp_in i n) (hdg : decode cc pc = .ok (.iaload, 1))
    (kk : W p l e R s m args below meth c H locs cells slots Q (F0 m (pc + 1) ls (.int (f i.toNatClampNeg) :: rest))) : W p l e R s m args below meth c H locs cells slots Q (F0 m pc ls (.int i :: .ref a :: rest)) :=
  va_iald hC.x hC.b hC.k hW.1 q0 0 ha rfl hin hdg kk
theorem hc_iast (hC : Cx D cy cz t1 t2 p s m args meth c cc nL ret own A) (hW : Wo D A s ws H locs) (q0 : Nat) {a n : Nat} {f : Nat → Int32} {i x : Int32} {ws' : va_W} (ha : ws[q0]? = some (a, .inl (cy, n, .inl f))) (hin : vp_in i n) (hw : ws.set q0 (a, .inl (cy, n, .inl (upd f i.toNatClampNeg x))) = ws') (hdg : decode cc pc = .ok (.iastore, 1))
    (kk : ∀ (H1 : Heap) (locs1 : List Loc), Wo D A s ws' H1 locs1 → W p l e R s m args below meth c H1 locs1 cells slots Q (F0 m (pc + 1) ls rest)) : W p l e R s m args below meth c H locs cells slots Q (F0 m pc ls (.int x :: .int i :: .ref a :: rest)) :=
  va_iast hC.x hC.b hC.k hW.1 hW.2.1 hW.2.2 q0 0 ha rfl hin hdg (fun H1 l1 a1 a2 a3 => kk H1 l1 ⟨hw ▸ a1, hw ▸ a2, a3⟩)
theorem hc_zald (hC : Cx D cy cz t1 t2 p s m args meth c cc nL ret own A) (hW : Wo D A s ws H locs) (q0 : Nat) {a n : Nat} {f : Nat → Int32} {i : Int32} (ha : ws[q0]? = some (a, .inl (cz, n, .inl f))) (hin : vp_in i n) (hdg : decode cc pc = .ok (.baload, 1))
    (kk : W p l e R s m args below meth c H locs cells slots Q (F0 m (pc + 1) ls (.int (f i.toNatClampNeg) :: rest))) : W p l e R s m args below meth c H locs cells slots Q (F0 m pc ls (.int i :: .ref a :: rest)) :=
  va_zald hC.x hC.b hC.k hW.1 q0 1 ha rfl hin hdg kk
theorem hc_zast (hC : Cx D cy cz t1 t2 p s m args meth c cc nL ret own A) (hW : Wo D A s ws H locs) (q0 : Nat) {a n : Nat} {f : Nat → Int32} {i x x' : Int32} {ws' : va_W} (ha : ws[q0]? = some (a, .inl (cz, n, .inl f))) (hin : vp_in i n) (hx : vp_nar .boolean x = x') (hw : ws.set q0 (a, .inl (cz, n, .inl (upd f i.toNatClampNeg x'))) = ws') (hdg : decode cc pc = .ok (.bastore, 1))
    (kk : ∀ (H1 : Heap) (locs1 : List Loc), Wo D A s ws' H1 locs1 → W p l e R s m args below meth c H1 locs1 cells slots Q (F0 m (pc + 1) ls rest)) : W p l e R s m args below meth c H locs cells slots Q (F0 m pc ls (.int x :: .int i :: .ref a :: rest)) := by
  subst hx
  exact va_zast hC.x hC.b hC.k hW.1 hW.2.1 hW.2.2 q0 1 ha rfl hin hdg (fun H1 l1 a1 a2 a3 => kk H1 l1 ⟨hw ▸ a1, hw ▸ a2, a3⟩)
theorem hc_alen (hC : Cx D cy cz t1 t2 p s m args meth c cc nL ret own A) (hW : Wo D A s ws H locs) (q0 : Nat) {a n : Nat} {f : Nat → Int32} {v : Int32} (ha : ws[q0]? = some (a, .inl (cy, n, .inl f))) (hv : Int32.ofNat n = v) (hdg : decode cc pc = .ok (.arraylength, 1))
    (kk : W p l e R s m args below meth c H locs cells slots Q (F0 m (pc + 1) ls (.int v :: rest))) : W p l e R s m args below meth c H locs cells slots Q (F0 m pc ls (.ref a :: rest)) :=
  va_alen hC.x hC.b hC.k hW.1 q0 0 ha (ty := .int) rfl hv hdg kk
theorem hc_get (hC : Cx D cy cz t1 t2 p s m args meth c cc nL ret own A) (hW : Wo D A s ws H locs) (q0 ci k : Nat) {C : String} {T : u_T} {N index a : Nat} {fs : List Value} {v : Value} (hin : ∀ w ∈ u_ws C T N, w ∈ gB) (he : ws[q0]? = some (a, .inr (ci, fs))) (hc : vwCl[ci]? = some (C, T, N)) (hk : k < N) (hlink : Cond.fieldLink own index (T k).1 (T k).2.1 (T k).2.2.1 ∈ gB) (hv : fs[k]? = some v) (hdg : decode cc pc = .ok (.getfield index, 3))
    (kk : W p l e R s m args below meth c H locs cells slots Q (F0 m (pc + 3) ls (v :: rest))) : W p l e R s m args below meth c H locs cells slots Q (F0 m pc ls (.ref a :: rest)) :=
  va_get hC.x hC.b hC.ts hin hC.ow hC.k hW.1 q0 he hc k hk (hC.ts _ hlink) (fun _ h => h) hv hdg kk
theorem hc_put (hC : Cx D cy cz t1 t2 p s m args meth c cc nL ret own A) (hW : Wo D A s ws H locs) (q0 ci k : Nat) {C : String} {T : u_T} {N index a : Nat} {fs : List Value} {v : Value} {ty : FieldType} {ws' : va_W} (hin : ∀ w ∈ u_ws C T N, w ∈ gB) (ty0 : Nat → FieldType) (hty : ∀ k, k < N → parseFieldDescriptor (T k).2.2.1 = some (ty0 k)) (hnm : ∀ a, a < N → ∀ b, b < N → a ≠ b → (T a).2.1 ≠ (T b).2.1) (he : ws[q0]? = some (a, .inr (ci, fs))) (hc : vwCl[ci]? = some (C, T, N)) (hk : k < N) (hlink : Cond.fieldLink own index (T k).1 (T k).2.1 (T k).2.2.1 ∈ gB) (hfin : (T k).2.2.2 = false) (hd : ty0 k = ty) (hn : narrow ty v = v) (hfit : fits ty v = true) (hl : k < fs.length) (hw : ws.set q0 (a, .inr (ci, fs.set k v)) = ws') (hdg : decode cc pc = .ok (.putfield index, 3))
    (kk : ∀ (H1 : Heap) (locs1 : List Loc), Wo D A s ws' H1 locs1 → W p l e R s m args below meth c H1 locs1 cells slots Q (F0 m (pc + 3) ls rest)) : W p l e R s m args below meth c H locs cells slots Q (F0 m pc ls (v :: .ref a :: rest)) :=
  va_put hC.x hC.b hC.ts hin ty0 hty hnm hC.ow hC.k hW.1 hW.2.1 hW.2.2 q0 he hc k hk (hC.ts _ hlink) (fun _ h => h) hfin (hd ▸ hty k hk) hn hfit hl hdg (fun H1 l1 a1 a2 a3 => kk H1 l1 ⟨hw ▸ a1, hw ▸ a2, a3⟩)
theorem hc_getC (hC : Cx D cy cz t1 t2 p s m args meth c cc nL ret own A) (hW : Wo D A s ws H locs) {index : Nat} (hlink : Cond.fieldLink own index "HingeCards" "STEP_C" "[I" ∈ gB) (hdg : decode cc pc = .ok (.getstatic index, 3))
    (kk : W p l e R s m args below meth c H locs cells slots Q (F0 m (pc + 3) ls (.ref t1 :: rest))) : W p l e R s m args below meth c H locs cells slots Q (F0 m pc ls rest) :=
  va_gets hC.x hC.b hC.en.2.1 hW.2.2 hC.ow (hC.ts _ hlink) (fun _ h => h) hdg kk
theorem hc_getS (hC : Cx D cy cz t1 t2 p s m args meth c cc nL ret own A) (hW : Wo D A s ws H locs) {index : Nat} (hlink : Cond.fieldLink own index "HingeCards" "STEP_S" "[I" ∈ gB) (hdg : decode cc pc = .ok (.getstatic index, 3))
    (kk : W p l e R s m args below meth c H locs cells slots Q (F0 m (pc + 3) ls (.ref t2 :: rest))) : W p l e R s m args below meth c H locs cells slots Q (F0 m pc ls rest) :=
  va_gets hC.x hC.b hC.en.2.2.2.1 hW.2.2 hC.ow (hC.ts _ hlink) (fun _ h => h) hdg kk
theorem hc_ldC (hC : Cx D cy cz t1 t2 p s m args meth c cc nL ret own A) (hW : Wo D A s ws H locs) {i : Int32} (hin : vp_in i 11) (hdg : decode cc pc = .ok (.iaload, 1))
    (kk : W p l e R s m args below meth c H locs cells slots Q (F0 m (pc + 1) ls (.int (tabC i.toNatClampNeg) :: rest))) : W p l e R s m args below meth c H locs cells slots Q (F0 m pc ls (.int i :: .ref t1 :: rest)) :=
  va_ti hC.x hC.b hC.en.2.2.1 hW.2.2 hin rfl hdg kk
theorem hc_ldS (hC : Cx D cy cz t1 t2 p s m args meth c cc nL ret own A) (hW : Wo D A s ws H locs) {i : Int32} (hin : vp_in i 11) (hdg : decode cc pc = .ok (.iaload, 1))
    (kk : W p l e R s m args below meth c H locs cells slots Q (F0 m (pc + 1) ls (.int (tabS i.toNatClampNeg) :: rest))) : W p l e R s m args below meth c H locs cells slots Q (F0 m pc ls (.int i :: .ref t2 :: rest)) :=
  va_ti hC.x hC.b hC.en.2.2.2.2 hW.2.2 hin rfl hdg kk
theorem hc_max (hC : Cx D cy cz t1 t2 p s m args meth c cc nL ret own A) {lv : List (Nat × Value)} (hl : lv_has ls nL lv) {index : Nat} (hlink : Cond.methodLink own index Lib.Math.max.name ∈ gB) (hstat : Cond.static Lib.Math.max.name ∈ gB) (hini : Cond.initialized "java/lang/Math" ∈ gB) (hcode : Cond.code Lib.Math.max.name Lib.Math.max.code 2 (some .int) ∈ gB) (hframes : 1 ≤ R.frames) (hlocals : (rest.map fun v => v.category).sum + 13 ≤ R.locals) (hcs : cells ≤ R.cells) (hss : slots ≤ R.slots) {x y : Int32} (hdg : decode cc pc = .ok (.invokestatic index, 3))
    (kk : W p l e R s m args below meth c H locs cells slots Q (F0 m (pc + 3) ls (.int (if x < y then y else x) :: rest))) : W p l e R s m args below meth c H locs cells slots Q (F0 m pc ls (.int y :: .int x :: rest)) :=
  va_mmax hC.x hC.b (hC.ml.trans hl.1.symm) hC.ow (hC.ts _ hlink) (hC.ts _ hstat) (hC.ts _ hini) (hC.ts _ hcode) hframes hlocals hcs hss hdg kk
theorem hc_min (hC : Cx D cy cz t1 t2 p s m args meth c cc nL ret own A) {lv : List (Nat × Value)} (hl : lv_has ls nL lv) {index : Nat} (hlink : Cond.methodLink own index Lib.Math.min.name ∈ gB) (hstat : Cond.static Lib.Math.min.name ∈ gB) (hini : Cond.initialized "java/lang/Math" ∈ gB) (hcode : Cond.code Lib.Math.min.name Lib.Math.min.code 2 (some .int) ∈ gB) (hframes : 1 ≤ R.frames) (hlocals : (rest.map fun v => v.category).sum + 13 ≤ R.locals) (hcs : cells ≤ R.cells) (hss : slots ≤ R.slots) {x y : Int32} (hdg : decode cc pc = .ok (.invokestatic index, 3))
    (kk : W p l e R s m args below meth c H locs cells slots Q (F0 m (pc + 3) ls (.int (if y < x then y else x) :: rest))) : W p l e R s m args below meth c H locs cells slots Q (F0 m pc ls (.int y :: .int x :: rest)) :=
  va_mmin hC.x hC.b (hC.ml.trans hl.1.symm) hC.ow (hC.ts _ hlink) (hC.ts _ hstat) (hC.ts _ hini) (hC.ts _ hcode) hframes hlocals hcs hss hdg kk
theorem hc_abs (hC : Cx D cy cz t1 t2 p s m args meth c cc nL ret own A) {lv : List (Nat × Value)} (hl : lv_has ls nL lv) {index : Nat} (hlink : Cond.methodLink own index Lib.Math.abs.name ∈ gB) (hstat : Cond.static Lib.Math.abs.name ∈ gB) (hini : Cond.initialized "java/lang/Math" ∈ gB) (hcode : Cond.code Lib.Math.abs.name Lib.Math.abs.code 1 (some .int) ∈ gB) (hframes : 1 ≤ R.frames) (hlocals : (rest.map fun v => v.category).sum + 13 ≤ R.locals) (hcs : cells ≤ R.cells) (hss : slots ≤ R.slots) {x : Int32} (hdg : decode cc pc = .ok (.invokestatic index, 3))
    (kk : W p l e R s m args below meth c H locs cells slots Q (F0 m (pc + 3) ls (.int (if 0 ≤ x then x else 0 - x) :: rest))) : W p l e R s m args below meth c H locs cells slots Q (F0 m pc ls (.int x :: rest)) :=
  va_mabs hC.x hC.b (hC.ml.trans hl.1.symm) hC.ow (hC.ts _ hlink) (hC.ts _ hstat) (hC.ts _ hini) (hC.ts _ hcode) hframes hlocals hcs hss hdg kk
end
