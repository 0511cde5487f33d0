def gd_tbl : List Cond := lw_tbl.filter goodWord
theorem gd_in {w : Cond} (i : Nat) (h : lw_tbl[i]? = some w) (hg : goodWord w = true) : w ∈ gd_tbl := List.mem_filter.mpr ⟨List.mem_of_getElem? h, hg⟩
theorem gd_good {big : List Cond} (h : ∀ w ∈ gd_tbl, w ∈ big) : GoodIn big gd_tbl := fun w hw => ⟨h w hw, good_of_word (List.mem_filter.mp hw).2⟩
abbrev eI (t : ClassId) (n : Nat) (f : Nat → Int32) : va_E := .inl (t, n, .inl f)
abbrev eJ (t : ClassId) (n : Nat) (f : Nat → Int64) : va_E := .inl (t, n, .inr (.inl f))
abbrev eQ (t : ClassId) (n : Nat) (f : Nat → Option Nat) : va_E := .inl (t, n, .inr (.inr (.inr (.inr f))))
abbrev eO (ci : Nat) (fs : List Value) : va_E := .inr (ci, fs)
def tysF (ty : Nat → ClassId) : List (ClassId × FieldType) := [(ty 0, .int), (ty 1, .byte), (ty 2, .boolean), (ty 3, .long), (ty 4, .object "PinchedBill$Tray"), (ty 5, .object "PinchedBill$Image")]
def nests : List (String × Nat × MethodName × String) := [("PinchedBill", 9, ⟨"PinchedBill$Reader", "<init>", "()V"⟩, "PinchedBill"), ("PinchedBill", 25, ⟨"PinchedBill$Standing", "<init>", "()V"⟩, "PinchedBill"), ("PinchedBill$Standing", 11, ⟨"PinchedBill$Walk", "<init>", "()V"⟩, "PinchedBill"), ("PinchedBill$Reckoner", 11, ⟨"PinchedBill$Walk", "<init>", "()V"⟩, "PinchedBill"), ("PinchedBill$Laws", 64, ⟨"PinchedBill", "figureOf", "(II)I"⟩, "PinchedBill"), ("PinchedBill", 279, ⟨"PinchedBill$Tray", "<init>", "()V"⟩, "PinchedBill"), ("PinchedBill", 301, ⟨"PinchedBill$Image", "<init>", "()V"⟩, "PinchedBill"), ("PinchedBill$Image", 18, ⟨"PinchedBill$Standing", "<init>", "()V"⟩, "PinchedBill")]
def strs : List (String × Nat × String) := [("PinchedBill", 320, "a number is out of its bounds"), ("PinchedBill$Reader", 222, ";:+-*()[]=<>"), ("PinchedBill$Reader", 50, "house"), ("PinchedBill$Reader", 55, "lines"), ("PinchedBill$Reader", 68, "person"), ("PinchedBill$Reader", 77, "bill"), ("PinchedBill", 332, "no such person"), ("PinchedBill", 328, "no such bill"), ("PinchedBill", 337, "no such tray"), ("PinchedBill", 339, "the tray is missing"), ("PinchedBill", 323, "below 0"), ("PinchedBill", 343, "a number seen is no such bill"), ("PinchedBill", 285, "no such place"), ("PinchedBill", 335, "no such image"), ("PinchedBill", 308, "no image was made"), ("PinchedBillModel", 245, "house"), ("PinchedBillModel", 251, "lines")]
def casts : List (String × String) := [("java/lang/IllegalArgumentException", "java/lang/IllegalArgumentException"), ("java/util/NoSuchElementException", "java/util/NoSuchElementException"), ("java/lang/IllegalStateException", "java/lang/IllegalStateException"), ("java/lang/IndexOutOfBoundsException", "java/lang/IndexOutOfBoundsException")]
def ncs : List (String × String) := [("java/lang/IllegalArgumentException", "java/lang/IllegalStateException"), ("java/lang/IllegalArgumentException", "java/lang/IndexOutOfBoundsException"), ("java/lang/IllegalArgumentException", "java/util/NoSuchElementException"), ("java/lang/IllegalStateException", "java/lang/IllegalArgumentException"), ("java/lang/IllegalStateException", "java/lang/IndexOutOfBoundsException"), ("java/lang/IllegalStateException", "java/util/NoSuchElementException"), ("java/lang/IndexOutOfBoundsException", "java/lang/IllegalArgumentException"), ("java/lang/IndexOutOfBoundsException", "java/lang/IllegalStateException"), ("java/lang/IndexOutOfBoundsException", "java/util/NoSuchElementException"), ("java/util/NoSuchElementException", "java/lang/IllegalArgumentException"), ("java/util/NoSuchElementException", "java/lang/IllegalStateException"), ("java/util/NoSuchElementException", "java/lang/IndexOutOfBoundsException")]
def decls : List MethodName := [⟨"java/lang/RuntimeException", "<init>", "(Ljava/lang/String;)V"⟩, ⟨"java/lang/Exception", "<init>", "(Ljava/lang/String;)V"⟩, ⟨"java/lang/Throwable", "<init>", "(Ljava/lang/String;)V"⟩]
/-- what the program needs of the tables beside the good words: links into nest mates, arrays of objects, texts, casts -/
def EX (U : State) : Prop := (∀ q ∈ nests, va_Nw (.methodLinkNest q.1 q.2.1 q.2.2.1 q.2.2.2) U) ∧ va_AO "PinchedBill$Tray" U ∧ va_AO "PinchedBill$Image" U ∧ (∀ q ∈ strs, ∃ a : Nat, vk_R q.1 q.2.1 q.2.2 a U) ∧ (∀ q ∈ casts, va_Nw (.castable q.1 q.2) U) ∧ (∀ q ∈ ncs, va_Nc q.1 q.2 U) ∧ ∀ y ∈ decls, va_Nw (.declares y) U
theorem EX.warm {s U : State} (hW : s.WarmedH U.vm) (h : EX s) : EX U := ⟨fun q hq => va_Nw.warmM hW (h.1 q hq), h.2.1.moved hW.alike, h.2.2.1.moved hW.alike, fun q hq => by
  obtain ⟨a, ha⟩ := h.2.2.2.1 q hq
  exact ⟨a, ha.warm hW⟩, fun q hq => va_Nw.warmC hW (h.2.2.2.2.1 q hq), fun q hq => (h.2.2.2.2.2.1 q hq).moved hW.alike, fun y hy => va_Nw.warmD hW (h.2.2.2.2.2.2 y hy)⟩
theorem EX.same {s U : State} (hv : s.vm = U.vm) (h : EX s) : EX U := ⟨fun q hq => va_Nw.same rfl hv (h.1 q hq), h.2.1.moved (by rw [hv]; exact Vm.Alike.refl _), h.2.2.1.moved (by rw [hv]; exact Vm.Alike.refl _), fun q hq => by
  obtain ⟨a, ha⟩ := h.2.2.2.1 q hq
  exact ⟨a, ha.same hv.symm⟩, fun q hq => va_Nw.same rfl hv (h.2.2.2.2.1 q hq), fun q hq => (h.2.2.2.2.2.1 q hq).moved (by rw [hv]; exact Vm.Alike.refl _), fun y hy => va_Nw.same rfl hv (h.2.2.2.2.2.2 y hy)⟩
def ZZ (A : Nat → Prop) (U : State) (H : Heap) : Prop := vx_Zq Bundle.tN "UNASSIGNED_STACK" Bundle.steD A U H ∧ vx_Zq Bundle.tN "SUPPRESSED_SENTINEL" Bundle.listD A U H
def cPre (D : va_G) (ty : Nat → ClassId) (av : List Value) (sz : Nat) (ws : va_W) : Array Value → State → Prop := va_Pc av (fun U => U.heap.size = sz ∧ va_P D vwCl ws U.heap ∧ va_K D vwCl (tysF ty) U ∧ va_D (fun _ => True) ws ∧ EX U ∧ ZZ (va_A ws sz) U U.heap)
theorem cPre_blind {D : va_G} {ty : Nat → ClassId} {av : List Value} {sz : Nat} {ws : va_W} : FrameBlind (cPre D ty av sz ws) := fun a U g mk q => by
  obtain ⟨q0, q1, qP, qK, qD, qE, qZ⟩ := q
  exact ⟨q0, q1, qP, va_K.moved (u := U) (U := U.calling g mk a) (Vm.Alike.refl U.vm) qK, qD, EX.same (s := U) (U := U.calling g mk a) rfl qE, vx_Zq.moved (u := U) (U := U.calling g mk a) (Vm.Alike.refl U.vm) qZ.1, vx_Zq.moved (u := U) (U := U.calling g mk a) (Vm.Alike.refl U.vm) qZ.2⟩
def cB (D : va_G) (ty : Nat → ClassId) (A : Nat → Prop) (w : va_W) (t : State) : Prop := va_P D vwCl w t.heap ∧ va_K D vwCl (tysF ty) t ∧ va_D A w
abbrev rmF (fr lo mc ms : Nat) : Room := { frames := fr, cells := mc, slots := ms, locals := lo }
abbrev QF : Type := (Nat → Prop) → Array Value → State → Outcome → State → Prop
abbrev QI (D : va_G) (ty : Nat → ClassId) (post : Int32 → va_W → Prop) : QF := fun A => va_Qi post (cB D ty A) A
abbrev QL (D : va_G) (ty : Nat → ClassId) (post : Int64 → va_W → Prop) : QF := fun A => va_Ql post (cB D ty A) A
abbrev QV (D : va_G) (ty : Nat → ClassId) (post : va_W → Prop) : QF := fun A => va_Qv post (cB D ty A) A
abbrev QR (D : va_G) (ty : Nat → ClassId) (post : Nat → va_W → Prop) : QF := fun A => va_Qr (S := va_W × Nat) (fun u => post u.2 u.1) (fun u a t => a = u.2 ∧ cB D ty A u.1 t) A
abbrev XF (px : String → Prop) : (Nat → Prop) → String → State → State → Prop := fun A => vx_X (fun _ : Unit => True) (fun E _ _ => px E) A
/-- the contract of a method that returns -/
def CC (l : Launch) (D : va_G) (ty : Nat → ClassId) (y : MethodName) (cc : ByteArray) (ml : Nat) (ret : Option FieldType) (fr lo mc ms : Nat) (av : List Value) (ws : va_W) (Qf : QF) : Prop :=
  ∀ sz : Nat, Met l y (.code y cc ml ret :: gd_tbl) (rmF fr lo mc ms) (cPre D ty av sz ws) (Qf (va_A ws sz)) mc ms (va_A ws sz)
/-- the contract of a method that returns or throws -/
def CX (l : Launch) (D : va_G) (ty : Nat → ClassId) (y : MethodName) (cc : ByteArray) (ml : Nat) (ret : Option FieldType) (fr lo mc ms : Nat) (av : List Value) (ws : va_W) (Qf : QF) (px : String → Prop) : Prop :=
  ∀ sz : Nat, vx_Met l y (.code y cc ml ret :: gd_tbl) (rmF fr lo mc ms) (cPre D ty av sz ws) (Qf (va_A ws sz)) (XF px (va_A ws sz)) mc ms (va_A ws sz)
/-- what holds in a method's body -/
def Cx (p : Program) (s : State) (m : MethodId) (args : Array Value) (meth : Method) (c : Code) (own nm : String) (cc : ByteArray) (ml : Nat) (ret : Option FieldType) (D : va_G) (ty : Nat → ClassId) (A : Nat → Prop) : Prop :=
  (p.tables.exec = Jvm.exec ∧ c.code = cc ∧ c.maxLocals = ml ∧ s.vm.findClass own = some m.cls ∧ ∀ w ∈ gd_tbl, w.before args s = true) ∧ meth.sig.returnType = ret ∧ meth.locks = false ∧ meth.name = nm ∧ va_K D vwCl (tysF ty) s ∧ EX s ∧ (∀ q : Nat, s.heap.size ≤ q → A q) ∧ ZZ A s s.heap
theorem CC_of {l : Launch} {D : va_G} {ty : Nat → ClassId} {y : MethodName} {cc : ByteArray} {ml : Nat} {ret : Option FieldType} {fr lo mc ms : Nat} {av : List Value} {ws : va_W} {Qf : QF} (hy : plainName y.cls = true)
    (body : ∀ (p : Program) (e : Env) (s : State) (m : MethodId) (below : List Frame) (meth : Method) (c : Code) (A : Nat → Prop), Cx p s m av.toArray meth c y.cls y.name cc ml ret D ty A → va_P D vwCl ws s.heap → va_D A ws → va_S A s.heap s.heap [] →
      W p l e (rmF fr lo mc ms) s m av.toArray below meth c s.heap [] 0 0 (MQ below (Qf A) av.toArray s mc ms A) (entryFrame m av.toArray ml)) : CC l D ty y cc ml ret fr lo mc ms av ws Qf := by
  intro sz
  refine Met.ofW (cc := cc) (maxL := ml) (ret := ret) hy rfl ?_
  intro p e s m args below meth c s₁ B hml hv
  obtain ⟨rfl, hsz, hP, hK, hD0, hE, hZ⟩ := hv
  subst hsz
  exact body p e s m below meth c (va_A ws s.heap.size) ⟨⟨B.exec, B.bytes, hml, findClass_of_methodNamed B.named, fun w h => atoms_spec (ws := .code y cc ml ret :: gd_tbl) B.pre w (List.mem_cons_of_mem _ h)⟩, B.returns, B.notSynchronized, (name_of_methodNamed B.named B.method).1, hK, hE, fun q h => Or.inr h, hZ⟩ hP hD0.self va_S.rf
theorem CX_of {l : Launch} {D : va_G} {ty : Nat → ClassId} {y : MethodName} {cc : ByteArray} {ml : Nat} {ret : Option FieldType} {fr lo mc ms : Nat} {av : List Value} {ws : va_W} {Qf : QF} {px : String → Prop} (hy : plainName y.cls = true)
    (body : ∀ (p : Program) (e : Env) (s : State) (m : MethodId) (below : List Frame) (meth : Method) (c : Code) (A : Nat → Prop), Cx p s m av.toArray meth c y.cls y.name cc ml ret D ty A → (∀ x ∈ c.exceptionTable.toList, False) → va_P D vwCl ws s.heap → va_D A ws → va_S A s.heap s.heap [] →
      W p l e (rmF fr lo mc ms) s m av.toArray below meth c s.heap [] 0 0 (vx_MQ below (Qf A) (XF px A) av.toArray s mc ms A) (entryFrame m av.toArray ml)) : CX l D ty y cc ml ret fr lo mc ms av ws Qf px := by
  intro sz
  refine vx_ofW (cc := cc) (maxL := ml) (ret := ret) hy rfl ?_
  intro p e s m args below meth c s₁ B hml hnt hv
  obtain ⟨rfl, hsz, hP, hK, hD0, hE, hZ⟩ := hv
  subst hsz
  exact body p e s m below meth c (va_A ws s.heap.size) ⟨⟨B.exec, B.bytes, hml, findClass_of_methodNamed B.named, fun w h => atoms_spec (ws := .code y cc ml ret :: gd_tbl) B.pre w (List.mem_cons_of_mem _ h)⟩, B.returns, B.notSynchronized, (name_of_methodNamed B.named B.method).1, hK, hE, fun q h => Or.inr h, hZ⟩ hnt hP hD0.self va_S.rf
/-- the locals at a method's entry -/
theorem lv_start {m : MethodId} (vs : List Value) (n : Nat) (hn : (lg_sl vs).length ≤ n) {G : JFrame → Prop} (k : ∀ ls : Array Slot, lv_has ls n (lv_args 0 vs) → G (F0 m 0 ls [])) : G (entryFrame m vs.toArray n) := by
  have hl := lv_entry vs (n := n) hn
  rw [lg_entry_eq]
  exact k _ hl
section BASE
variable {p : Program} {l : Launch} {e : Env} {R : Room} {s : State} {m : MethodId} {args : Array Value} {below : List Frame} {meth : Method} {c : Code} {H : Heap} {locs : List Loc} {cells slots : Nat} {Q : State → Prop}
variable {own nm : String} {cc : ByteArray} {ml : Nat} {ret : Option FieldType} {D : va_G} {ty : Nat → ClassId} {A : Nat → Prop} {pc : Nat} {ls : Array Slot} {rest st : List Value} {ws wc wr : va_W} {a : Nat}
theorem r_get (C : Cx p s m args meth c own nm cc ml ret D ty A) (hP : va_P D vwCl ws H) (q0 : Nat) {ci : Nat} {fs : List Value} (he : ws[q0]? = some (a, .inr (ci, fs))) {K : String} {T : u_T} {N : Nat} (hc : vwCl[ci]? = some (K, T, N)) (hin : ∀ w ∈ u_ws K T N, w ∈ gd_tbl) (k : Nat) (hk : k < N) {index : Nat} (hlink : Cond.fieldLink own index (T k).1 (T k).2.1 (T k).2.2.1 ∈ gd_tbl) {v : Value} (hv : fs[k]? = some v) (hdg : decode cc pc = .ok (.getfield index, 3))
    (kk : W p l e R s m args below meth c H locs cells slots Q (F0 m (pc + 3) ls (v :: rest))) : W p l e R s m args below meth c H locs cells slots Q (F0 m pc ls (.ref a :: rest)) := by
  obtain ⟨⟨hx, hb, hml, hown, hts⟩, hr, hlocks, hnm, hK, hE, hA, hZ⟩ := C
  exact va_get hx hb hts hin hown hK hP q0 he hc k hk (hts _ hlink) (fun _ h => h) hv hdg kk
theorem r_put (C : Cx p s m args meth c own nm cc ml ret D ty A) (hP : va_P D vwCl ws H) (hD : va_D A ws) (hS : va_S A s.heap H locs) (q0 : Nat) {ci : Nat} {fs : List Value} (he : ws[q0]? = some (a, .inr (ci, fs))) {K : String} {T : u_T} {N : Nat} (hc : vwCl[ci]? = some (K, T, N)) (hin : ∀ w ∈ u_ws K T N, w ∈ gd_tbl) {ty0 : Nat → FieldType} (hty : ∀ k, k < N → parseFieldDescriptor (T k).2.2.1 = some (ty0 k)) (hnm : ∀ a, a < N → ∀ b, b < N → a ≠ b → (T a).2.1 ≠ (T b).2.1) (k : Nat) (hk : k < N) {index : Nat} (hlink : Cond.fieldLink own index (T k).1 (T k).2.1 (T k).2.2.1 ∈ gd_tbl) (hfin : (T k).2.2.2 = false) {v : Value} (hn : narrow (ty0 k) v = v) (hfit : fits (ty0 k) v = true) (hl : k < fs.length) {w : va_W} (hw : ws.set q0 (a, .inr (ci, fs.set k v)) = w)
    (hdg : decode cc pc = .ok (.putfield index, 3)) (kk : ∀ (H1 : Heap) (locs1 : List Loc), va_P D vwCl w H1 → va_D A w → va_S A s.heap H1 locs1 → W p l e R s m args below meth c H1 locs1 cells slots Q (F0 m (pc + 3) ls rest)) : W p l e R s m args below meth c H locs cells slots Q (F0 m pc ls (v :: .ref a :: rest)) := by
  obtain ⟨⟨hx, hb, hml, hown, hts⟩, hr, hlocks, hnm9, hK, hE, hA, hZ⟩ := C
  subst hw
  exact va_put hx hb hts hin ty0 hty hnm hown hK hP hD hS q0 he hc k hk (hts _ hlink) (fun _ h => h) hfin (hty k hk) hn hfit hl hdg kk
theorem r_putF (C : Cx p s m args meth c own "<init>" cc ml ret D ty A) (hP : va_P D vwCl ws H) (hD : va_D A ws) (hS : va_S A s.heap H locs) (q0 : Nat) {ci : Nat} {fs : List Value} (he : ws[q0]? = some (a, .inr (ci, fs))) {K : String} {T : u_T} {N : Nat} (hc : vwCl[ci]? = some (K, T, N)) (hin : ∀ w ∈ u_ws K T N, w ∈ gd_tbl) {ty0 : Nat → FieldType} (hty : ∀ k, k < N → parseFieldDescriptor (T k).2.2.1 = some (ty0 k)) (hnm : ∀ a, a < N → ∀ b, b < N → a ≠ b → (T a).2.1 ≠ (T b).2.1) (k : Nat) (hk : k < N) {index : Nat} (hlink : Cond.fieldLink own index (T k).1 (T k).2.1 (T k).2.2.1 ∈ gd_tbl) (hfin : (T k).2.2.2 = true) (hdecl : (T k).1 = own) {v : Value} (hn : narrow (ty0 k) v = v) (hfit : fits (ty0 k) v = true) (hl : k < fs.length) {w : va_W} (hw : ws.set q0 (a, .inr (ci, fs.set k v)) = w)
    (hdg : decode cc pc = .ok (.putfield index, 3)) (kk : ∀ (H1 : Heap) (locs1 : List Loc), va_P D vwCl w H1 → va_D A w → va_S A s.heap H1 locs1 → W p l e R s m args below meth c H1 locs1 cells slots Q (F0 m (pc + 3) ls rest)) : W p l e R s m args below meth c H locs cells slots Q (F0 m pc ls (v :: .ref a :: rest)) := by
  obtain ⟨⟨hx, hb, hml, hown, hts⟩, hr, hlocks, hnm9, hK, hE, hA, hZ⟩ := C
  subst hw
  exact va_putF hx hb hts hin ty0 hty hnm hown hK hP hD hS q0 he hc k hk (hts _ hlink) (fun _ h => h) hfin hnm9 hdecl (hty k hk) hn hfit hl hdg kk
theorem r_new (C : Cx p s m args meth c own nm cc ml ret D ty A) (hP : va_P D vwCl ws H) (hD : va_D A ws) (hS : va_S A s.heap H locs) {ci : Nat} {K : String} {T : u_T} {N : Nat} (hc : vwCl[ci]? = some (K, T, N)) (hin : ∀ w ∈ u_ws K T N, w ∈ gd_tbl) {ty0 : Nat → FieldType} (hty : ∀ k, k < N → parseFieldDescriptor (T k).2.2.1 = some (ty0 k)) {fs : List Value} (hfs : ∀ j, j < N → defaultValue (ty0 j) = vp_V fs j) {index : Nat} (hcl : Cond.classLink own index K ∈ gd_tbl) (hinst : Cond.instantiable K N ∈ gd_tbl) (hini : Cond.initialized K ∈ gd_tbl) (hcells : cells + 1 ≤ R.cells) (hslots : slots + N ≤ R.slots) (hdg : decode cc pc = .ok (.new index, 3))
    (kk : ∀ (q : Nat) (H1 : Heap), va_P D vwCl (ws ++ [(q, .inr (ci, fs))]) H1 → va_D A (ws ++ [(q, .inr (ci, fs))]) → va_S A s.heap H1 locs → W p l e R s m args below meth c H1 locs (cells + 1) (slots + N) Q (F0 m (pc + 3) ls (.ref q :: rest))) : W p l e R s m args below meth c H locs cells slots Q (F0 m pc ls rest) := by
  obtain ⟨⟨hx, hb, hml, hown, hts⟩, hr, hlocks, hnm9, hK, hE, hA, hZ⟩ := C
  exact va_new hx hb hts hin ty0 hty hown (hts _ hcl) (hts _ hinst) (hts _ hini) hK hP hD hS hA hc hfs hcells hslots hdg kk
theorem r_obj (C : Cx p s m args meth c own nm cc ml ret D ty A) {idx : Nat} (h1 : Cond.methodLink own idx Lib.objectInit ∈ gd_tbl) (h2 : Cond.instanceMethod Lib.objectInit ∈ gd_tbl) (h3 : Cond.code Lib.objectInit ⟨#[0xb1]⟩ 1 none ∈ gd_tbl) (hl : ls.size = ml) (hd : decode cc pc = .ok (.invokespecial idx, 3)) (hf : 1 ≤ R.frames) (hlo : (rest.map fun v => v.category).sum + 12 ≤ R.locals)
    (kk : W p l e R s m args below meth c H locs cells slots Q (F0 m (pc + 3) ls rest)) : W p l e R s m args below meth c H locs cells slots Q (F0 m pc ls (.ref a :: rest)) := by
  obtain ⟨⟨hx, hb, hml, hown, hts⟩, hr, hlocks, hnm9, hK, hE, hA, hZ⟩ := C
  refine W.objInit hx hb hown (hts _ h1) (hts _ h2) (hts _ h3) rfl (by rw [hml]; exact hl) rfl hd hf ?_ kk
  show 2 * 0 + _ + 12 ≤ _
  omega
/-- an array of numbers is made: its class is the known one -/
theorem r_newa (C : Cx p s m args meth c own nm cc ml ret D ty A) (hP : va_P D vwCl ws H) (hD : va_D A ws) (hS : va_S A s.heap H locs) {atype : ArrayType} (t0 : Nat) {cT : ClassId} {fty : FieldType} (ht : (tysF ty)[t0]? = some (cT, fty)) (hty : newarray.typeOf atype = fty) (hra : ∀ (U : State) (cA : ClassId), va_RA U cA fty → U.vm.findClass ("[" ++ fty.toString) = some cA) (harr : Cond.arrayClass fty ∈ gd_tbl)
    {n : Int32} {N' : Nat} {a0 : vp_A} (ha : ∀ cA : ClassId, vp_cell cA a0 = arrV cA N' (fun _ => defaultValue fty)) (hn : ¬ n < 0) (hN : n.toNatClampNeg = N') (hbytes : N' * componentBytes fty ≤ 536870912) (hcells : cells + 1 ≤ R.cells) (hslots : slots + N' ≤ R.slots) (hdg : decode cc pc = .ok (.newarray atype, 2))
    (kk : ∀ (q : Nat) (H1 : Heap), va_P D vwCl (ws ++ [(q, .inl (cT, a0))]) H1 → va_D A (ws ++ [(q, .inl (cT, a0))]) → va_S A s.heap H1 locs → W p l e R s m args below meth c H1 locs (cells + 1) (slots + N') Q (F0 m (pc + 2) ls (.ref q :: rest))) : W p l e R s m args below meth c H locs cells slots Q (F0 m pc ls (.int n :: rest)) := by
  obtain ⟨⟨hx, hb, hml, hown, hts⟩, hr, hlocks, hnm9, hK, hE, hA, hZ⟩ := C
  refine va_newa hx hb (by rw [hty]; exact hts _ harr) hty hK hP hD hS hA ha hn hN hbytes hcells hslots hdg (fun q cA H1 hK1 hP1 hD1 hS1 => ?_)
  have e1 := hra _ _ (hK.2 t0 _ ht).2
  have e2 := hra _ _ (hK1.2 (tysF ty).length (cA, fty) (by simp)).2
  obtain rfl : cT = cA := Option.some.inj (e1.symm.trans e2)
  exact kk q H1 hP1 hD1 hS1
/-- an array of objects is made -/
theorem r_newq (C : Cx p s m args meth c own nm cc ml ret D ty A) (hP : va_P D vwCl ws H) (hD : va_D A ws) (hS : va_S A s.heap H locs) (t0 : Nat) {cT : ClassId} {K : String} (ht : (tysF ty)[t0]? = some (cT, .object K)) {index : Nat} (hcl : Cond.classLink own index K ∈ gd_tbl) (hover : va_AO K s)
    {n : Int32} {N' : Nat} (hn : ¬ n < 0) (hN : n.toNatClampNeg = N') (hbytes : N' * 4 ≤ 536870912) (hcells : cells + 1 ≤ R.cells) (hslots : slots + N' ≤ R.slots) (hdg : decode cc pc = .ok (.anewarray index, 3))
    (kk : ∀ (q : Nat) (H1 : Heap), va_P D vwCl (ws ++ [(q, eQ cT N' (fun _ => none))]) H1 → va_D A (ws ++ [(q, eQ cT N' (fun _ => none))]) → va_S A s.heap H1 locs → W p l e R s m args below meth c H1 locs (cells + 1) (slots + N') Q (F0 m (pc + 3) ls (.ref q :: rest))) : W p l e R s m args below meth c H locs cells slots Q (F0 m pc ls (.int n :: rest)) := by
  obtain ⟨⟨hx, hb, hml, hown, hts⟩, hr, hlocks, hnm9, hK, hE, hA, hZ⟩ := C
  refine va_newq hx hb hown (hts _ hcl) hover hK hP hD hS hA hn hN hbytes hcells hslots hdg (fun q cA H1 hK1 hP1 hD1 hS1 => ?_)
  obtain ⟨k1, c1, -, -, -, e1⟩ := (hK.2 t0 _ ht).2
  obtain ⟨k2, c2, -, -, -, e2⟩ := (hK1.2 (tysF ty).length (cA, .object K) (by simp)).2
  obtain rfl : cT = cA := Option.some.inj (e1.symm.trans e2)
  exact kk q H1 hP1 hD1 hS1
theorem in_of {i : Int32} {k n : Nat} (hk : i = nI k) (hn : k < n) (hN : n < 2 ^ 31) : vp_in i n := by rw [hk]; exact vp_in_nI hn hN
theorem cl_of {i : Int32} {k n : Nat} (hk : i = nI k) (hn : k < n) (hN : n < 2 ^ 31) : i.toNatClampNeg = k := by rw [hk]; exact nI_clamp (Nat.lt_trans hn hN)
theorem r_iald (C : Cx p s m args meth c own nm cc ml ret D ty A) (hP : va_P D vwCl ws H) (q0 : Nat) {n : Nat} {f : Nat → Int32} (ha : ws[q0]? = some (a, eI (ty 0) n f)) {i : Int32} (k : Nat) (hk : i = nI k) (hn : k < n) (hN : n < 2 ^ 31) {v : Int32} (hv : f k = v) (hdg : decode cc pc = .ok (.iaload, 1))
    (kk : W p l e R s m args below meth c H locs cells slots Q (F0 m (pc + 1) ls (.int v :: rest))) : W p l e R s m args below meth c H locs cells slots Q (F0 m pc ls (.int i :: .ref a :: rest)) := by
  obtain ⟨⟨hx, hb, hml, hown, hts⟩, hr, hlocks, hnm9, hK, hE, hA, hZ⟩ := C
  subst hv
  refine va_iald hx hb hK hP q0 0 ha rfl (in_of hk hn hN) hdg ?_
  rw [cl_of hk hn hN]
  exact kk
theorem r_bald (C : Cx p s m args meth c own nm cc ml ret D ty A) (hP : va_P D vwCl ws H) (q0 : Nat) {n : Nat} {f : Nat → Int32} (ha : ws[q0]? = some (a, eI (ty 1) n f)) {i : Int32} (k : Nat) (hk : i = nI k) (hn : k < n) (hN : n < 2 ^ 31) {v : Int32} (hv : f k = v) (hdg : decode cc pc = .ok (.baload, 1))
    (kk : W p l e R s m args below meth c H locs cells slots Q (F0 m (pc + 1) ls (.int v :: rest))) : W p l e R s m args below meth c H locs cells slots Q (F0 m pc ls (.int i :: .ref a :: rest)) := by
  obtain ⟨⟨hx, hb, hml, hown, hts⟩, hr, hlocks, hnm9, hK, hE, hA, hZ⟩ := C
  subst hv
  refine va_bald hx hb hK hP q0 1 ha rfl (in_of hk hn hN) hdg ?_
  rw [cl_of hk hn hN]
  exact kk
theorem r_zald (C : Cx p s m args meth c own nm cc ml ret D ty A) (hP : va_P D vwCl ws H) (q0 : Nat) {n : Nat} {f : Nat → Int32} (ha : ws[q0]? = some (a, eI (ty 2) n f)) {i : Int32} (k : Nat) (hk : i = nI k) (hn : k < n) (hN : n < 2 ^ 31) {v : Int32} (hv : f k = v) (hdg : decode cc pc = .ok (.baload, 1))
    (kk : W p l e R s m args below meth c H locs cells slots Q (F0 m (pc + 1) ls (.int v :: rest))) : W p l e R s m args below meth c H locs cells slots Q (F0 m pc ls (.int i :: .ref a :: rest)) := by
  obtain ⟨⟨hx, hb, hml, hown, hts⟩, hr, hlocks, hnm9, hK, hE, hA, hZ⟩ := C
  subst hv
  refine va_zald hx hb hK hP q0 2 ha rfl (in_of hk hn hN) hdg ?_
  rw [cl_of hk hn hN]
  exact kk
theorem r_lald (C : Cx p s m args meth c own nm cc ml ret D ty A) (hP : va_P D vwCl ws H) (q0 : Nat) {n : Nat} {f : Nat → Int64} (ha : ws[q0]? = some (a, eJ (ty 3) n f)) {i : Int32} (k : Nat) (hk : i = nI k) (hn : k < n) (hN : n < 2 ^ 31) {v : Int64} (hv : f k = v) (hdg : decode cc pc = .ok (.laload, 1))
    (kk : W p l e R s m args below meth c H locs cells slots Q (F0 m (pc + 1) ls (.long v :: rest))) : W p l e R s m args below meth c H locs cells slots Q (F0 m pc ls (.int i :: .ref a :: rest)) := by
  obtain ⟨⟨hx, hb, hml, hown, hts⟩, hr, hlocks, hnm9, hK, hE, hA, hZ⟩ := C
  subst hv
  refine va_lald hx hb hK hP q0 3 ha rfl (in_of hk hn hN) hdg ?_
  rw [cl_of hk hn hN]
  exact kk
theorem r_aald (C : Cx p s m args meth c own nm cc ml ret D ty A) (hP : va_P D vwCl ws H) (q0 t0 : Nat) {n : Nat} {f : Nat → Option Nat} {cT : ClassId} {K : String} (ht : (tysF ty)[t0]? = some (cT, .object K)) (ha : ws[q0]? = some (a, eQ cT n f)) {i : Int32} (k : Nat) (hk : i = nI k) (hn : k < n) (hN : n < 2 ^ 31) {v : Value} (hv : va_rf (f k) = v) (hdg : decode cc pc = .ok (.aaload, 1))
    (kk : W p l e R s m args below meth c H locs cells slots Q (F0 m (pc + 1) ls (v :: rest))) : W p l e R s m args below meth c H locs cells slots Q (F0 m pc ls (.int i :: .ref a :: rest)) := by
  obtain ⟨⟨hx, hb, hml, hown, hts⟩, hr, hlocks, hnm9, hK, hE, hA, hZ⟩ := C
  subst hv
  refine va_aldq hx hb hK hP q0 t0 ha ht (in_of hk hn hN) hdg ?_
  rw [cl_of hk hn hN]
  exact kk
theorem r_iast (C : Cx p s m args meth c own nm cc ml ret D ty A) (hP : va_P D vwCl ws H) (hD : va_D A ws) (hS : va_S A s.heap H locs) (q0 : Nat) {n : Nat} {f : Nat → Int32} (ha : ws[q0]? = some (a, eI (ty 0) n f)) {i x : Int32} (k : Nat) (hk : i = nI k) (hn : k < n) (hN : n < 2 ^ 31) {w : va_W} (hw : ws.set q0 (a, eI (ty 0) n (upd f k x)) = w) (hdg : decode cc pc = .ok (.iastore, 1))
    (kk : ∀ (H1 : Heap) (locs1 : List Loc), va_P D vwCl w H1 → va_D A w → va_S A s.heap H1 locs1 → W p l e R s m args below meth c H1 locs1 cells slots Q (F0 m (pc + 1) ls rest)) : W p l e R s m args below meth c H locs cells slots Q (F0 m pc ls (.int x :: .int i :: .ref a :: rest)) := by
  obtain ⟨⟨hx, hb, hml, hown, hts⟩, hr, hlocks, hnm9, hK, hE, hA, hZ⟩ := C
  subst hw
  refine va_iast hx hb hK hP hD hS q0 0 ha rfl (in_of hk hn hN) hdg ?_
  rw [cl_of hk hn hN]
  exact kk
theorem r_bast (C : Cx p s m args meth c own nm cc ml ret D ty A) (hP : va_P D vwCl ws H) (hD : va_D A ws) (hS : va_S A s.heap H locs) (q0 : Nat) {n : Nat} {f : Nat → Int32} (ha : ws[q0]? = some (a, eI (ty 1) n f)) {i x : Int32} (k : Nat) (hk : i = nI k) (hn : k < n) (hN : n < 2 ^ 31) {w : va_W} (hw : ws.set q0 (a, eI (ty 1) n (upd f k (vp_nar .byte x))) = w) (hdg : decode cc pc = .ok (.bastore, 1))
    (kk : ∀ (H1 : Heap) (locs1 : List Loc), va_P D vwCl w H1 → va_D A w → va_S A s.heap H1 locs1 → W p l e R s m args below meth c H1 locs1 cells slots Q (F0 m (pc + 1) ls rest)) : W p l e R s m args below meth c H locs cells slots Q (F0 m pc ls (.int x :: .int i :: .ref a :: rest)) := by
  obtain ⟨⟨hx, hb, hml, hown, hts⟩, hr, hlocks, hnm9, hK, hE, hA, hZ⟩ := C
  subst hw
  refine va_bast hx hb hK hP hD hS q0 1 ha rfl (in_of hk hn hN) hdg ?_
  rw [cl_of hk hn hN]
  exact kk
theorem r_zast (C : Cx p s m args meth c own nm cc ml ret D ty A) (hP : va_P D vwCl ws H) (hD : va_D A ws) (hS : va_S A s.heap H locs) (q0 : Nat) {n : Nat} {f : Nat → Int32} (ha : ws[q0]? = some (a, eI (ty 2) n f)) {i x : Int32} (k : Nat) (hk : i = nI k) (hn : k < n) (hN : n < 2 ^ 31) {g : Nat → Int32} (hg : ∀ x1, x1 = vp_nar .boolean x → upd f k x1 = g) {w : va_W} (hw : ws.set q0 (a, eI (ty 2) n g) = w) (hdg : decode cc pc = .ok (.bastore, 1))
    (kk : ∀ (H1 : Heap) (locs1 : List Loc), va_P D vwCl w H1 → va_D A w → va_S A s.heap H1 locs1 → W p l e R s m args below meth c H1 locs1 cells slots Q (F0 m (pc + 1) ls rest)) : W p l e R s m args below meth c H locs cells slots Q (F0 m pc ls (.int x :: .int i :: .ref a :: rest)) := by
  obtain ⟨⟨hx, hb, hml, hown, hts⟩, hr, hlocks, hnm9, hK, hE, hA, hZ⟩ := C
  subst hw
  have hg := hg _ rfl
  subst hg
  refine va_zast hx hb hK hP hD hS q0 2 ha rfl (in_of hk hn hN) hdg ?_
  rw [cl_of hk hn hN]
  exact kk
theorem r_last (C : Cx p s m args meth c own nm cc ml ret D ty A) (hP : va_P D vwCl ws H) (hD : va_D A ws) (hS : va_S A s.heap H locs) (q0 : Nat) {n : Nat} {f : Nat → Int64} (ha : ws[q0]? = some (a, eJ (ty 3) n f)) {i : Int32} {x : Int64} (k : Nat) (hk : i = nI k) (hn : k < n) (hN : n < 2 ^ 31) {w : va_W} (hw : ws.set q0 (a, eJ (ty 3) n (vp_updL f k x)) = w) (hdg : decode cc pc = .ok (.lastore, 1))
    (kk : ∀ (H1 : Heap) (locs1 : List Loc), va_P D vwCl w H1 → va_D A w → va_S A s.heap H1 locs1 → W p l e R s m args below meth c H1 locs1 cells slots Q (F0 m (pc + 1) ls rest)) : W p l e R s m args below meth c H locs cells slots Q (F0 m pc ls (.long x :: .int i :: .ref a :: rest)) := by
  obtain ⟨⟨hx, hb, hml, hown, hts⟩, hr, hlocks, hnm9, hK, hE, hA, hZ⟩ := C
  subst hw
  refine va_last hx hb hK hP hD hS q0 3 ha rfl (in_of hk hn hN) hdg ?_
  rw [cl_of hk hn hN]
  exact kk
theorem r_aast (C : Cx p s m args meth c own nm cc ml ret D ty A) (hP : va_P D vwCl ws H) (hD : va_D A ws) (hS : va_S A s.heap H locs) (q0 t0 qk : Nat) {ci : Nat} {r : vw_C} {n v : Nat} {vs : List Value} {f : Nat → Option Nat} {cT : ClassId} (ht : (tysF ty)[t0]? = some (cT, .object r.1)) (ha : ws[q0]? = some (a, eQ cT n f)) (hv : ws[qk]? = some (v, .inr (ci, vs))) (hc : vwCl[ci]? = some r) {i : Int32} (k : Nat) (hk : i = nI k) (hn : k < n) (hN : n < 2 ^ 31) {w : va_W} (hw : ws.set q0 (a, eQ cT n (va_up f k (some v))) = w) (hdg : decode cc pc = .ok (.aastore, 1))
    (kk : ∀ (H1 : Heap) (locs1 : List Loc), va_P D vwCl w H1 → va_D A w → va_S A s.heap H1 locs1 → W p l e R s m args below meth c H1 locs1 cells slots Q (F0 m (pc + 1) ls rest)) : W p l e R s m args below meth c H locs cells slots Q (F0 m pc ls (.ref v :: .int i :: .ref a :: rest)) := by
  obtain ⟨⟨hx, hb, hml, hown, hts⟩, hr, hlocks, hnm9, hK, hE, hA, hZ⟩ := C
  subst hw
  refine va_astq hx hb hK hP hD hS q0 t0 qk ci ha ht hv hc (in_of hk hn hN) hdg ?_
  rw [cl_of hk hn hN]
  exact kk
theorem r_alen (C : Cx p s m args meth c own nm cc ml ret D ty A) (hP : va_P D vwCl ws H) (q0 t0 : Nat) {cT : ClassId} {fty : FieldType} (ht : (tysF ty)[t0]? = some (cT, fty)) {x : vp_A} (ha : ws[q0]? = some (a, .inl (cT, x))) {v : Int32} (hv : nI x.1 = v) (hdg : decode cc pc = .ok (.arraylength, 1))
    (kk : W p l e R s m args below meth c H locs cells slots Q (F0 m (pc + 1) ls (.int v :: rest))) : W p l e R s m args below meth c H locs cells slots Q (F0 m pc ls (.ref a :: rest)) := by
  obtain ⟨⟨hx, hb, hml, hown, hts⟩, hr, hlocks, hnm9, hK, hE, hA, hZ⟩ := C
  exact va_alen hx hb hK hP q0 t0 ha ht hv hdg kk
-- numbers: the answer is named by whoever walks
theorem r_iadd (C : Cx p s m args meth c own nm cc ml ret D ty A) {x y z : Int32} (hdg : decode cc pc = .ok (.iadd, 1)) (hz : x + y = z) (k : W p l e R s m args below meth c H locs cells slots Q (F0 m (pc + 1) ls (.int z :: rest))) : W p l e R s m args below meth c H locs cells slots Q (F0 m pc ls (.int y :: .int x :: rest)) := by subst hz; exact lv_iadd C.1.1 C.1.2.1 hdg k
theorem r_isub (C : Cx p s m args meth c own nm cc ml ret D ty A) {x y z : Int32} (hdg : decode cc pc = .ok (.isub, 1)) (hz : x - y = z) (k : W p l e R s m args below meth c H locs cells slots Q (F0 m (pc + 1) ls (.int z :: rest))) : W p l e R s m args below meth c H locs cells slots Q (F0 m pc ls (.int y :: .int x :: rest)) := by subst hz; exact lv_isub C.1.1 C.1.2.1 hdg k
theorem r_imul (C : Cx p s m args meth c own nm cc ml ret D ty A) {x y z : Int32} (hdg : decode cc pc = .ok (.imul, 1)) (hz : x * y = z) (k : W p l e R s m args below meth c H locs cells slots Q (F0 m (pc + 1) ls (.int z :: rest))) : W p l e R s m args below meth c H locs cells slots Q (F0 m pc ls (.int y :: .int x :: rest)) := by subst hz; exact lv_imul C.1.1 C.1.2.1 hdg k
theorem r_iand (C : Cx p s m args meth c own nm cc ml ret D ty A) {x y z : Int32} (hdg : decode cc pc = .ok (.iand, 1)) (hz : x &&& y = z) (k : W p l e R s m args below meth c H locs cells slots Q (F0 m (pc + 1) ls (.int z :: rest))) : W p l e R s m args below meth c H locs cells slots Q (F0 m pc ls (.int y :: .int x :: rest)) := by subst hz; exact lv_iand C.1.1 C.1.2.1 hdg k
theorem r_ior (C : Cx p s m args meth c own nm cc ml ret D ty A) {x y z : Int32} (hdg : decode cc pc = .ok (.ior, 1)) (hz : x ||| y = z) (k : W p l e R s m args below meth c H locs cells slots Q (F0 m (pc + 1) ls (.int z :: rest))) : W p l e R s m args below meth c H locs cells slots Q (F0 m pc ls (.int y :: .int x :: rest)) := by subst hz; exact lv_ior C.1.1 C.1.2.1 hdg k
theorem r_ixor (C : Cx p s m args meth c own nm cc ml ret D ty A) {x y z : Int32} (hdg : decode cc pc = .ok (.ixor, 1)) (hz : x ^^^ y = z) (k : W p l e R s m args below meth c H locs cells slots Q (F0 m (pc + 1) ls (.int z :: rest))) : W p l e R s m args below meth c H locs cells slots Q (F0 m pc ls (.int y :: .int x :: rest)) := by subst hz; exact lv_ixor C.1.1 C.1.2.1 hdg k
theorem r_idiv (C : Cx p s m args meth c own nm cc ml ret D ty A) {x y z : Int32} (hdg : decode cc pc = .ok (.idiv, 1)) (hne : ¬ y = 0) (hz : x / y = z) (k : W p l e R s m args below meth c H locs cells slots Q (F0 m (pc + 1) ls (.int z :: rest))) : W p l e R s m args below meth c H locs cells slots Q (F0 m pc ls (.int y :: .int x :: rest)) := by subst hz; exact lv_idiv C.1.1 C.1.2.1 hdg hne k
theorem r_irem (C : Cx p s m args meth c own nm cc ml ret D ty A) {x y z : Int32} (hdg : decode cc pc = .ok (.irem, 1)) (hne : ¬ y = 0) (hz : x - x / y * y = z) (k : W p l e R s m args below meth c H locs cells slots Q (F0 m (pc + 1) ls (.int z :: rest))) : W p l e R s m args below meth c H locs cells slots Q (F0 m pc ls (.int y :: .int x :: rest)) := by subst hz; exact lv_irem C.1.1 C.1.2.1 hdg hne k
theorem r_ineg (C : Cx p s m args meth c own nm cc ml ret D ty A) {x z : Int32} (hdg : decode cc pc = .ok (.ineg, 1)) (hz : 0 - x = z) (k : W p l e R s m args below meth c H locs cells slots Q (F0 m (pc + 1) ls (.int z :: rest))) : W p l e R s m args below meth c H locs cells slots Q (F0 m pc ls (.int x :: rest)) := by subst hz; exact lv_ineg C.1.1 C.1.2.1 hdg k
theorem r_ishl (C : Cx p s m args meth c own nm cc ml ret D ty A) {x y z : Int32} (hdg : decode cc pc = .ok (.ishl, 1)) (hz : x <<< (y &&& 31) = z) (k : W p l e R s m args below meth c H locs cells slots Q (F0 m (pc + 1) ls (.int z :: rest))) : W p l e R s m args below meth c H locs cells slots Q (F0 m pc ls (.int y :: .int x :: rest)) := by subst hz; exact lv_ishl C.1.1 C.1.2.1 hdg k
theorem r_ishr (C : Cx p s m args meth c own nm cc ml ret D ty A) {x y z : Int32} (hdg : decode cc pc = .ok (.ishr, 1)) (hz : x >>> (y &&& 31) = z) (k : W p l e R s m args below meth c H locs cells slots Q (F0 m (pc + 1) ls (.int z :: rest))) : W p l e R s m args below meth c H locs cells slots Q (F0 m pc ls (.int y :: .int x :: rest)) := by subst hz; exact lv_ishr C.1.1 C.1.2.1 hdg k
theorem r_ladd (C : Cx p s m args meth c own nm cc ml ret D ty A) {x y z : Int64} (hdg : decode cc pc = .ok (.ladd, 1)) (hz : x + y = z) (k : W p l e R s m args below meth c H locs cells slots Q (F0 m (pc + 1) ls (.long z :: rest))) : W p l e R s m args below meth c H locs cells slots Q (F0 m pc ls (.long y :: .long x :: rest)) := by subst hz; exact lv_ladd C.1.1 C.1.2.1 hdg k
theorem r_lmul (C : Cx p s m args meth c own nm cc ml ret D ty A) {x y z : Int64} (hdg : decode cc pc = .ok (.lmul, 1)) (hz : x * y = z) (k : W p l e R s m args below meth c H locs cells slots Q (F0 m (pc + 1) ls (.long z :: rest))) : W p l e R s m args below meth c H locs cells slots Q (F0 m pc ls (.long y :: .long x :: rest)) := by subst hz; exact lv_lmul C.1.1 C.1.2.1 hdg k
theorem r_ldiv (C : Cx p s m args meth c own nm cc ml ret D ty A) {x y z : Int64} (hdg : decode cc pc = .ok (.ldiv, 1)) (hne : ¬ y = 0) (hz : x / y = z) (k : W p l e R s m args below meth c H locs cells slots Q (F0 m (pc + 1) ls (.long z :: rest))) : W p l e R s m args below meth c H locs cells slots Q (F0 m pc ls (.long y :: .long x :: rest)) := by subst hz; exact lv_ldiv C.1.1 C.1.2.1 hdg hne k
theorem r_lrem (C : Cx p s m args meth c own nm cc ml ret D ty A) {x y z : Int64} (hdg : decode cc pc = .ok (.lrem, 1)) (hne : ¬ y = 0) (hz : x - x / y * y = z) (k : W p l e R s m args below meth c H locs cells slots Q (F0 m (pc + 1) ls (.long z :: rest))) : W p l e R s m args below meth c H locs cells slots Q (F0 m pc ls (.long y :: .long x :: rest)) := by subst hz; exact lv_lrem C.1.1 C.1.2.1 hdg hne k
end BASE
theorem ly_X0_0 : u_lay RX0 TX0 0 ∈ gd_tbl := gd_in 198 (by decide +kernel) (by decide +kernel)
theorem ly_X0_1 : u_lay RX0 TX0 1 ∈ gd_tbl := gd_in 200 (by decide +kernel) (by decide +kernel)
theorem ly_X0_2 : u_lay RX0 TX0 2 ∈ gd_tbl := gd_in 202 (by decide +kernel) (by decide +kernel)
theorem ly_X0_3 : u_lay RX0 TX0 3 ∈ gd_tbl := gd_in 204 (by decide +kernel) (by decide +kernel)
theorem ly_X0_4 : u_lay RX0 TX0 4 ∈ gd_tbl := gd_in 206 (by decide +kernel) (by decide +kernel)
theorem ly_X0_5 : u_lay RX0 TX0 5 ∈ gd_tbl := gd_in 208 (by decide +kernel) (by decide +kernel)
theorem ly_X0_6 : u_lay RX0 TX0 6 ∈ gd_tbl := gd_in 210 (by decide +kernel) (by decide +kernel)
theorem ly_X0_7 : u_lay RX0 TX0 7 ∈ gd_tbl := gd_in 212 (by decide +kernel) (by decide +kernel)
theorem ly_X0_8 : u_lay RX0 TX0 8 ∈ gd_tbl := gd_in 214 (by decide +kernel) (by decide +kernel)
theorem ly_X0_9 : u_lay RX0 TX0 9 ∈ gd_tbl := gd_in 216 (by decide +kernel) (by decide +kernel)
theorem ly_X0_10 : u_lay RX0 TX0 10 ∈ gd_tbl := gd_in 218 (by decide +kernel) (by decide +kernel)
theorem ly_X0_11 : u_lay RX0 TX0 11 ∈ gd_tbl := gd_in 220 (by decide +kernel) (by decide +kernel)
theorem ly_X0_12 : u_lay RX0 TX0 12 ∈ gd_tbl := gd_in 222 (by decide +kernel) (by decide +kernel)
theorem lay_X0 : ∀ w ∈ u_ws RX0 TX0 13, w ∈ gd_tbl := by
  intro w hw
  obtain ⟨k, hk, rfl⟩ := List.mem_map.mp hw
  have hk := List.mem_range.mp hk
  match k, hk with
  | 0, _ => exact ly_X0_0
  | 1, _ => exact ly_X0_1
  | 2, _ => exact ly_X0_2
  | 3, _ => exact ly_X0_3
  | 4, _ => exact ly_X0_4
  | 5, _ => exact ly_X0_5
  | 6, _ => exact ly_X0_6
  | 7, _ => exact ly_X0_7
  | 8, _ => exact ly_X0_8
  | 9, _ => exact ly_X0_9
  | 10, _ => exact ly_X0_10
  | 11, _ => exact ly_X0_11
  | 12, _ => exact ly_X0_12
  | k + 13, h => exact absurd h (by omega)
theorem tok_X0 : ∀ k, k < 13 → parseFieldDescriptor (TX0 k).2.2.1 = some (yX0 k) := by decide +kernel
theorem nmo_X0 : ∀ a, a < 13 → ∀ b, b < 13 → a ≠ b → (TX0 a).2.1 ≠ (TX0 b).2.1 := by decide +kernel
theorem nw_X0 : ∀ j, j < 13 → defaultValue (yX0 j) = vp_V [.int 0, .int 0, .int 0, .int 0, .int 0, .int 0, .int 0, .int 0, .int 0, .int 0, .null, .null, .null] j := by decide +kernel
theorem ly_X1_0 : u_lay RX1 TX1 0 ∈ gd_tbl := gd_in 1474 (by decide +kernel) (by decide +kernel)
theorem ly_X1_1 : u_lay RX1 TX1 1 ∈ gd_tbl := gd_in 1476 (by decide +kernel) (by decide +kernel)
theorem lay_X1 : ∀ w ∈ u_ws RX1 TX1 2, w ∈ gd_tbl := by
  intro w hw
  obtain ⟨k, hk, rfl⟩ := List.mem_map.mp hw
  have hk := List.mem_range.mp hk
  match k, hk with
  | 0, _ => exact ly_X1_0
  | 1, _ => exact ly_X1_1
  | k + 2, h => exact absurd h (by omega)
theorem tok_X1 : ∀ k, k < 2 → parseFieldDescriptor (TX1 k).2.2.1 = some (yX1 k) := by decide +kernel
theorem nmo_X1 : ∀ a, a < 2 → ∀ b, b < 2 → a ≠ b → (TX1 a).2.1 ≠ (TX1 b).2.1 := by decide +kernel
theorem nw_X1 : ∀ j, j < 2 → defaultValue (yX1 j) = vp_V [.null, .null] j := by decide +kernel
theorem ly_X2_0 : u_lay RX2 TX2 0 ∈ gd_tbl := gd_in 393 (by decide +kernel) (by decide +kernel)
theorem ly_X2_1 : u_lay RX2 TX2 1 ∈ gd_tbl := gd_in 395 (by decide +kernel) (by decide +kernel)
theorem ly_X2_2 : u_lay RX2 TX2 2 ∈ gd_tbl := gd_in 397 (by decide +kernel) (by decide +kernel)
theorem ly_X2_3 : u_lay RX2 TX2 3 ∈ gd_tbl := gd_in 399 (by decide +kernel) (by decide +kernel)
theorem ly_X2_4 : u_lay RX2 TX2 4 ∈ gd_tbl := gd_in 401 (by decide +kernel) (by decide +kernel)
theorem lay_X2 : ∀ w ∈ u_ws RX2 TX2 5, w ∈ gd_tbl := by
  intro w hw
  obtain ⟨k, hk, rfl⟩ := List.mem_map.mp hw
  have hk := List.mem_range.mp hk
  match k, hk with
  | 0, _ => exact ly_X2_0
  | 1, _ => exact ly_X2_1
  | 2, _ => exact ly_X2_2
  | 3, _ => exact ly_X2_3
  | 4, _ => exact ly_X2_4
  | k + 5, h => exact absurd h (by omega)
theorem tok_X2 : ∀ k, k < 5 → parseFieldDescriptor (TX2 k).2.2.1 = some (yX2 k) := by decide +kernel
theorem nmo_X2 : ∀ a, a < 5 → ∀ b, b < 5 → a ≠ b → (TX2 a).2.1 ≠ (TX2 b).2.1 := by decide +kernel
theorem nw_X2 : ∀ j, j < 5 → defaultValue (yX2 j) = vp_V [.null, .null, .null, .null, .null] j := by decide +kernel
theorem ly_X3_0 : u_lay RX3 TX3 0 ∈ gd_tbl := gd_in 241 (by decide +kernel) (by decide +kernel)
theorem ly_X3_1 : u_lay RX3 TX3 1 ∈ gd_tbl := gd_in 243 (by decide +kernel) (by decide +kernel)
theorem ly_X3_2 : u_lay RX3 TX3 2 ∈ gd_tbl := gd_in 245 (by decide +kernel) (by decide +kernel)
theorem ly_X3_3 : u_lay RX3 TX3 3 ∈ gd_tbl := gd_in 247 (by decide +kernel) (by decide +kernel)
theorem ly_X3_4 : u_lay RX3 TX3 4 ∈ gd_tbl := gd_in 249 (by decide +kernel) (by decide +kernel)
theorem ly_X3_5 : u_lay RX3 TX3 5 ∈ gd_tbl := gd_in 251 (by decide +kernel) (by decide +kernel)
theorem ly_X3_6 : u_lay RX3 TX3 6 ∈ gd_tbl := gd_in 253 (by decide +kernel) (by decide +kernel)
theorem ly_X3_7 : u_lay RX3 TX3 7 ∈ gd_tbl := gd_in 255 (by decide +kernel) (by decide +kernel)
theorem ly_X3_8 : u_lay RX3 TX3 8 ∈ gd_tbl := gd_in 257 (by decide +kernel) (by decide +kernel)
theorem ly_X3_9 : u_lay RX3 TX3 9 ∈ gd_tbl := gd_in 259 (by decide +kernel) (by decide +kernel)
theorem ly_X3_10 : u_lay RX3 TX3 10 ∈ gd_tbl := gd_in 261 (by decide +kernel) (by decide +kernel)
theorem lay_X3 : ∀ w ∈ u_ws RX3 TX3 11, w ∈ gd_tbl := by
  intro w hw
  obtain ⟨k, hk, rfl⟩ := List.mem_map.mp hw
  have hk := List.mem_range.mp hk
  match k, hk with
  | 0, _ => exact ly_X3_0
  | 1, _ => exact ly_X3_1
  | 2, _ => exact ly_X3_2
  | 3, _ => exact ly_X3_3
  | 4, _ => exact ly_X3_4
  | 5, _ => exact ly_X3_5
  | 6, _ => exact ly_X3_6
  | 7, _ => exact ly_X3_7
  | 8, _ => exact ly_X3_8
  | 9, _ => exact ly_X3_9
  | 10, _ => exact ly_X3_10
  | k + 11, h => exact absurd h (by omega)
theorem tok_X3 : ∀ k, k < 11 → parseFieldDescriptor (TX3 k).2.2.1 = some (yX3 k) := by decide +kernel
theorem nmo_X3 : ∀ a, a < 11 → ∀ b, b < 11 → a ≠ b → (TX3 a).2.1 ≠ (TX3 b).2.1 := by decide +kernel
theorem nw_X3 : ∀ j, j < 11 → defaultValue (yX3 j) = vp_V [.int 0, .int 0, .int 0, .null, .null, .int 0, .int 0, .int 0, .int 0, .int 0, .int 0] j := by decide +kernel
theorem ly_X4_0 : u_lay RX4 TX4 0 ∈ gd_tbl := gd_in 428 (by decide +kernel) (by decide +kernel)
theorem ly_X4_1 : u_lay RX4 TX4 1 ∈ gd_tbl := gd_in 430 (by decide +kernel) (by decide +kernel)
theorem ly_X4_2 : u_lay RX4 TX4 2 ∈ gd_tbl := gd_in 432 (by decide +kernel) (by decide +kernel)
theorem ly_X4_3 : u_lay RX4 TX4 3 ∈ gd_tbl := gd_in 434 (by decide +kernel) (by decide +kernel)
theorem ly_X4_4 : u_lay RX4 TX4 4 ∈ gd_tbl := gd_in 436 (by decide +kernel) (by decide +kernel)
theorem ly_X4_5 : u_lay RX4 TX4 5 ∈ gd_tbl := gd_in 438 (by decide +kernel) (by decide +kernel)
theorem ly_X4_6 : u_lay RX4 TX4 6 ∈ gd_tbl := gd_in 440 (by decide +kernel) (by decide +kernel)
theorem ly_X4_7 : u_lay RX4 TX4 7 ∈ gd_tbl := gd_in 442 (by decide +kernel) (by decide +kernel)
theorem ly_X4_8 : u_lay RX4 TX4 8 ∈ gd_tbl := gd_in 444 (by decide +kernel) (by decide +kernel)
theorem ly_X4_9 : u_lay RX4 TX4 9 ∈ gd_tbl := gd_in 446 (by decide +kernel) (by decide +kernel)
theorem ly_X4_10 : u_lay RX4 TX4 10 ∈ gd_tbl := gd_in 448 (by decide +kernel) (by decide +kernel)
theorem ly_X4_11 : u_lay RX4 TX4 11 ∈ gd_tbl := gd_in 450 (by decide +kernel) (by decide +kernel)
theorem ly_X4_12 : u_lay RX4 TX4 12 ∈ gd_tbl := gd_in 452 (by decide +kernel) (by decide +kernel)
theorem ly_X4_13 : u_lay RX4 TX4 13 ∈ gd_tbl := gd_in 454 (by decide +kernel) (by decide +kernel)
theorem ly_X4_14 : u_lay RX4 TX4 14 ∈ gd_tbl := gd_in 456 (by decide +kernel) (by decide +kernel)
theorem ly_X4_15 : u_lay RX4 TX4 15 ∈ gd_tbl := gd_in 458 (by decide +kernel) (by decide +kernel)
theorem ly_X4_16 : u_lay RX4 TX4 16 ∈ gd_tbl := gd_in 460 (by decide +kernel) (by decide +kernel)
theorem ly_X4_17 : u_lay RX4 TX4 17 ∈ gd_tbl := gd_in 462 (by decide +kernel) (by decide +kernel)
theorem lay_X4 : ∀ w ∈ u_ws RX4 TX4 18, w ∈ gd_tbl := by
  intro w hw
  obtain ⟨k, hk, rfl⟩ := List.mem_map.mp hw
  have hk := List.mem_range.mp hk
  match k, hk with
  | 0, _ => exact ly_X4_0
  | 1, _ => exact ly_X4_1
  | 2, _ => exact ly_X4_2
  | 3, _ => exact ly_X4_3
  | 4, _ => exact ly_X4_4
  | 5, _ => exact ly_X4_5
  | 6, _ => exact ly_X4_6
  | 7, _ => exact ly_X4_7
  | 8, _ => exact ly_X4_8
  | 9, _ => exact ly_X4_9
  | 10, _ => exact ly_X4_10
  | 11, _ => exact ly_X4_11
  | 12, _ => exact ly_X4_12
  | 13, _ => exact ly_X4_13
  | 14, _ => exact ly_X4_14
  | 15, _ => exact ly_X4_15
  | 16, _ => exact ly_X4_16
  | 17, _ => exact ly_X4_17
  | k + 18, h => exact absurd h (by omega)
theorem tok_X4 : ∀ k, k < 18 → parseFieldDescriptor (TX4 k).2.2.1 = some (yX4 k) := by decide +kernel
theorem nmo_X4 : ∀ a, a < 18 → ∀ b, b < 18 → a ≠ b → (TX4 a).2.1 ≠ (TX4 b).2.1 := by decide +kernel
theorem nw_X4 : ∀ j, j < 18 → defaultValue (yX4 j) = vp_V [.null, .null, .null, .int 0, .int 0, .int 0, .null, .null, .int 0, .null, .null, .int 0, .null, .int 0, .null, .null, .null, .int 0] j := by decide +kernel
theorem ly_X5_0 : u_lay RX5 TX5 0 ∈ gd_tbl := gd_in 303 (by decide +kernel) (by decide +kernel)
theorem ly_X5_1 : u_lay RX5 TX5 1 ∈ gd_tbl := gd_in 305 (by decide +kernel) (by decide +kernel)
theorem ly_X5_2 : u_lay RX5 TX5 2 ∈ gd_tbl := gd_in 307 (by decide +kernel) (by decide +kernel)
theorem ly_X5_3 : u_lay RX5 TX5 3 ∈ gd_tbl := gd_in 309 (by decide +kernel) (by decide +kernel)
theorem ly_X5_4 : u_lay RX5 TX5 4 ∈ gd_tbl := gd_in 311 (by decide +kernel) (by decide +kernel)
theorem ly_X5_5 : u_lay RX5 TX5 5 ∈ gd_tbl := gd_in 313 (by decide +kernel) (by decide +kernel)
theorem lay_X5 : ∀ w ∈ u_ws RX5 TX5 6, w ∈ gd_tbl := by
  intro w hw
  obtain ⟨k, hk, rfl⟩ := List.mem_map.mp hw
  have hk := List.mem_range.mp hk
  match k, hk with
  | 0, _ => exact ly_X5_0
  | 1, _ => exact ly_X5_1
  | 2, _ => exact ly_X5_2
  | 3, _ => exact ly_X5_3
  | 4, _ => exact ly_X5_4
  | 5, _ => exact ly_X5_5
  | k + 6, h => exact absurd h (by omega)
theorem tok_X5 : ∀ k, k < 6 → parseFieldDescriptor (TX5 k).2.2.1 = some (yX5 k) := by decide +kernel
theorem nmo_X5 : ∀ a, a < 6 → ∀ b, b < 6 → a ≠ b → (TX5 a).2.1 ≠ (TX5 b).2.1 := by decide +kernel
theorem nw_X5 : ∀ j, j < 6 → defaultValue (yX5 j) = vp_V [.null, .int 0, .int 0, .null, .null, .null] j := by decide +kernel
theorem ly_X6_0 : u_lay RX6 TX6 0 ∈ gd_tbl := gd_in 1391 (by decide +kernel) (by decide +kernel)
theorem ly_X6_1 : u_lay RX6 TX6 1 ∈ gd_tbl := gd_in 1393 (by decide +kernel) (by decide +kernel)
theorem ly_X6_2 : u_lay RX6 TX6 2 ∈ gd_tbl := gd_in 1395 (by decide +kernel) (by decide +kernel)
theorem lay_X6 : ∀ w ∈ u_ws RX6 TX6 3, w ∈ gd_tbl := by
  intro w hw
  obtain ⟨k, hk, rfl⟩ := List.mem_map.mp hw
  have hk := List.mem_range.mp hk
  match k, hk with
  | 0, _ => exact ly_X6_0
  | 1, _ => exact ly_X6_1
  | 2, _ => exact ly_X6_2
  | k + 3, h => exact absurd h (by omega)
theorem tok_X6 : ∀ k, k < 3 → parseFieldDescriptor (TX6 k).2.2.1 = some (yX6 k) := by decide +kernel
theorem nmo_X6 : ∀ a, a < 3 → ∀ b, b < 3 → a ≠ b → (TX6 a).2.1 ≠ (TX6 b).2.1 := by decide +kernel
theorem nw_X6 : ∀ j, j < 3 → defaultValue (yX6 j) = vp_V [.int 0, .int 0, .null] j := by decide +kernel
theorem ly_X7_0 : u_lay RX7 TX7 0 ∈ gd_tbl := gd_in 289 (by decide +kernel) (by decide +kernel)
theorem ly_X7_1 : u_lay RX7 TX7 1 ∈ gd_tbl := gd_in 291 (by decide +kernel) (by decide +kernel)
theorem lay_X7 : ∀ w ∈ u_ws RX7 TX7 2, w ∈ gd_tbl := by
  intro w hw
  obtain ⟨k, hk, rfl⟩ := List.mem_map.mp hw
  have hk := List.mem_range.mp hk
  match k, hk with
  | 0, _ => exact ly_X7_0
  | 1, _ => exact ly_X7_1
  | k + 2, h => exact absurd h (by omega)
theorem tok_X7 : ∀ k, k < 2 → parseFieldDescriptor (TX7 k).2.2.1 = some (yX7 k) := by decide +kernel
theorem nmo_X7 : ∀ a, a < 2 → ∀ b, b < 2 → a ≠ b → (TX7 a).2.1 ≠ (TX7 b).2.1 := by decide +kernel
theorem nw_X7 : ∀ j, j < 2 → defaultValue (yX7 j) = vp_V [.int 0, .int 0] j := by decide +kernel
theorem ly_X8_0 : u_lay RX8 TX8 0 ∈ gd_tbl := gd_in 327 (by decide +kernel) (by decide +kernel)
theorem ly_X8_1 : u_lay RX8 TX8 1 ∈ gd_tbl := gd_in 329 (by decide +kernel) (by decide +kernel)
theorem ly_X8_2 : u_lay RX8 TX8 2 ∈ gd_tbl := gd_in 331 (by decide +kernel) (by decide +kernel)
theorem ly_X8_3 : u_lay RX8 TX8 3 ∈ gd_tbl := gd_in 333 (by decide +kernel) (by decide +kernel)
theorem ly_X8_4 : u_lay RX8 TX8 4 ∈ gd_tbl := gd_in 335 (by decide +kernel) (by decide +kernel)
theorem ly_X8_5 : u_lay RX8 TX8 5 ∈ gd_tbl := gd_in 337 (by decide +kernel) (by decide +kernel)
theorem ly_X8_6 : u_lay RX8 TX8 6 ∈ gd_tbl := gd_in 339 (by decide +kernel) (by decide +kernel)
theorem lay_X8 : ∀ w ∈ u_ws RX8 TX8 7, w ∈ gd_tbl := by
  intro w hw
  obtain ⟨k, hk, rfl⟩ := List.mem_map.mp hw
  have hk := List.mem_range.mp hk
  match k, hk with
  | 0, _ => exact ly_X8_0
  | 1, _ => exact ly_X8_1
  | 2, _ => exact ly_X8_2
  | 3, _ => exact ly_X8_3
  | 4, _ => exact ly_X8_4
  | 5, _ => exact ly_X8_5
  | 6, _ => exact ly_X8_6
  | k + 7, h => exact absurd h (by omega)
theorem tok_X8 : ∀ k, k < 7 → parseFieldDescriptor (TX8 k).2.2.1 = some (yX8 k) := by decide +kernel
theorem nmo_X8 : ∀ a, a < 7 → ∀ b, b < 7 → a ≠ b → (TX8 a).2.1 ≠ (TX8 b).2.1 := by decide +kernel
theorem nw_X8 : ∀ j, j < 7 → defaultValue (yX8 j) = vp_V [.null, .null, .null, .null, .null, .null, .null] j := by decide +kernel
theorem ly_X9_0 : u_lay RX9 TX9 0 ∈ gd_tbl := gd_in 1585 (by decide +kernel) (by decide +kernel)
theorem ly_X9_1 : u_lay RX9 TX9 1 ∈ gd_tbl := gd_in 1587 (by decide +kernel) (by decide +kernel)
theorem ly_X9_2 : u_lay RX9 TX9 2 ∈ gd_tbl := gd_in 1589 (by decide +kernel) (by decide +kernel)
theorem ly_X9_3 : u_lay RX9 TX9 3 ∈ gd_tbl := gd_in 1591 (by decide +kernel) (by decide +kernel)
theorem ly_X9_4 : u_lay RX9 TX9 4 ∈ gd_tbl := gd_in 1593 (by decide +kernel) (by decide +kernel)
theorem ly_X9_5 : u_lay RX9 TX9 5 ∈ gd_tbl := gd_in 1595 (by decide +kernel) (by decide +kernel)
theorem ly_X9_6 : u_lay RX9 TX9 6 ∈ gd_tbl := gd_in 1597 (by decide +kernel) (by decide +kernel)
theorem ly_X9_7 : u_lay RX9 TX9 7 ∈ gd_tbl := gd_in 1599 (by decide +kernel) (by decide +kernel)
theorem ly_X9_8 : u_lay RX9 TX9 8 ∈ gd_tbl := gd_in 1601 (by decide +kernel) (by decide +kernel)
theorem ly_X9_9 : u_lay RX9 TX9 9 ∈ gd_tbl := gd_in 1603 (by decide +kernel) (by decide +kernel)
theorem ly_X9_10 : u_lay RX9 TX9 10 ∈ gd_tbl := gd_in 1605 (by decide +kernel) (by decide +kernel)
theorem ly_X9_11 : u_lay RX9 TX9 11 ∈ gd_tbl := gd_in 1607 (by decide +kernel) (by decide +kernel)
theorem ly_X9_12 : u_lay RX9 TX9 12 ∈ gd_tbl := gd_in 1609 (by decide +kernel) (by decide +kernel)
theorem ly_X9_13 : u_lay RX9 TX9 13 ∈ gd_tbl := gd_in 1611 (by decide +kernel) (by decide +kernel)
theorem ly_X9_14 : u_lay RX9 TX9 14 ∈ gd_tbl := gd_in 1613 (by decide +kernel) (by decide +kernel)
theorem ly_X9_15 : u_lay RX9 TX9 15 ∈ gd_tbl := gd_in 1615 (by decide +kernel) (by decide +kernel)
theorem ly_X9_16 : u_lay RX9 TX9 16 ∈ gd_tbl := gd_in 1617 (by decide +kernel) (by decide +kernel)
theorem ly_X9_17 : u_lay RX9 TX9 17 ∈ gd_tbl := gd_in 1619 (by decide +kernel) (by decide +kernel)
theorem ly_X9_18 : u_lay RX9 TX9 18 ∈ gd_tbl := gd_in 1621 (by decide +kernel) (by decide +kernel)
theorem ly_X9_19 : u_lay RX9 TX9 19 ∈ gd_tbl := gd_in 1623 (by decide +kernel) (by decide +kernel)
theorem ly_X9_20 : u_lay RX9 TX9 20 ∈ gd_tbl := gd_in 1625 (by decide +kernel) (by decide +kernel)
theorem ly_X9_21 : u_lay RX9 TX9 21 ∈ gd_tbl := gd_in 1627 (by decide +kernel) (by decide +kernel)
theorem ly_X9_22 : u_lay RX9 TX9 22 ∈ gd_tbl := gd_in 1629 (by decide +kernel) (by decide +kernel)
theorem ly_X9_23 : u_lay RX9 TX9 23 ∈ gd_tbl := gd_in 1631 (by decide +kernel) (by decide +kernel)
theorem ly_X9_24 : u_lay RX9 TX9 24 ∈ gd_tbl := gd_in 1633 (by decide +kernel) (by decide +kernel)
theorem ly_X9_25 : u_lay RX9 TX9 25 ∈ gd_tbl := gd_in 1635 (by decide +kernel) (by decide +kernel)
theorem ly_X9_26 : u_lay RX9 TX9 26 ∈ gd_tbl := gd_in 1637 (by decide +kernel) (by decide +kernel)
theorem ly_X9_27 : u_lay RX9 TX9 27 ∈ gd_tbl := gd_in 1639 (by decide +kernel) (by decide +kernel)
theorem ly_X9_28 : u_lay RX9 TX9 28 ∈ gd_tbl := gd_in 1641 (by decide +kernel) (by decide +kernel)
theorem ly_X9_29 : u_lay RX9 TX9 29 ∈ gd_tbl := gd_in 1643 (by decide +kernel) (by decide +kernel)
theorem ly_X9_30 : u_lay RX9 TX9 30 ∈ gd_tbl := gd_in 1645 (by decide +kernel) (by decide +kernel)
theorem ly_X9_31 : u_lay RX9 TX9 31 ∈ gd_tbl := gd_in 1647 (by decide +kernel) (by decide +kernel)
theorem ly_X9_32 : u_lay RX9 TX9 32 ∈ gd_tbl := gd_in 1649 (by decide +kernel) (by decide +kernel)
theorem ly_X9_33 : u_lay RX9 TX9 33 ∈ gd_tbl := gd_in 1651 (by decide +kernel) (by decide +kernel)
theorem ly_X9_34 : u_lay RX9 TX9 34 ∈ gd_tbl := gd_in 1653 (by decide +kernel) (by decide +kernel)
theorem ly_X9_35 : u_lay RX9 TX9 35 ∈ gd_tbl := gd_in 1655 (by decide +kernel) (by decide +kernel)
theorem ly_X9_36 : u_lay RX9 TX9 36 ∈ gd_tbl := gd_in 1657 (by decide +kernel) (by decide +kernel)
theorem ly_X9_37 : u_lay RX9 TX9 37 ∈ gd_tbl := gd_in 1659 (by decide +kernel) (by decide +kernel)
theorem ly_X9_38 : u_lay RX9 TX9 38 ∈ gd_tbl := gd_in 1661 (by decide +kernel) (by decide +kernel)
theorem ly_X9_39 : u_lay RX9 TX9 39 ∈ gd_tbl := gd_in 1663 (by decide +kernel) (by decide +kernel)
theorem lay_X9 : ∀ w ∈ u_ws RX9 TX9 40, w ∈ gd_tbl := by
  intro w hw
  obtain ⟨k, hk, rfl⟩ := List.mem_map.mp hw
  have hk := List.mem_range.mp hk
  match k, hk with
  | 0, _ => exact ly_X9_0
  | 1, _ => exact ly_X9_1
  | 2, _ => exact ly_X9_2
  | 3, _ => exact ly_X9_3
  | 4, _ => exact ly_X9_4
  | 5, _ => exact ly_X9_5
  | 6, _ => exact ly_X9_6
  | 7, _ => exact ly_X9_7
  | 8, _ => exact ly_X9_8
  | 9, _ => exact ly_X9_9
  | 10, _ => exact ly_X9_10
  | 11, _ => exact ly_X9_11
  | 12, _ => exact ly_X9_12
  | 13, _ => exact ly_X9_13
  | 14, _ => exact ly_X9_14
  | 15, _ => exact ly_X9_15
  | 16, _ => exact ly_X9_16
  | 17, _ => exact ly_X9_17
  | 18, _ => exact ly_X9_18
  | 19, _ => exact ly_X9_19
  | 20, _ => exact ly_X9_20
  | 21, _ => exact ly_X9_21
  | 22, _ => exact ly_X9_22
  | 23, _ => exact ly_X9_23
  | 24, _ => exact ly_X9_24
  | 25, _ => exact ly_X9_25
  | 26, _ => exact ly_X9_26
  | 27, _ => exact ly_X9_27
  | 28, _ => exact ly_X9_28
  | 29, _ => exact ly_X9_29
  | 30, _ => exact ly_X9_30
  | 31, _ => exact ly_X9_31
  | 32, _ => exact ly_X9_32
  | 33, _ => exact ly_X9_33
  | 34, _ => exact ly_X9_34
  | 35, _ => exact ly_X9_35
  | 36, _ => exact ly_X9_36
  | 37, _ => exact ly_X9_37
  | 38, _ => exact ly_X9_38
  | 39, _ => exact ly_X9_39
  | k + 40, h => exact absurd h (by omega)
theorem tok_X9 : ∀ k, k < 40 → parseFieldDescriptor (TX9 k).2.2.1 = some (yX9 k) := by decide +kernel
theorem nmo_X9 : ∀ a, a < 40 → ∀ b, b < 40 → a ≠ b → (TX9 a).2.1 ≠ (TX9 b).2.1 := by decide +kernel
theorem nw_X9 : ∀ j, j < 40 → defaultValue (yX9 j) = vp_V [.null, .null, .null, .null, .int 0, .null, .int 0, .int 0, .int 0, .int 0, .int 0, .int 0, .int 0, .int 0, .int 0, .int 0, .int 0, .int 0, .int 0, .null, .null, .null, .null, .null, .int 0, .null, .null, .null, .int 0, .int 0, .null, .null, .int 0, .null, .int 0, .int 0, .null, .null, .null, .null] j := by decide +kernel
