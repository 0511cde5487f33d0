/-- the callee's cells wc and the rest wr, by their places -/
def Cut (ws wc wr : va_W) (isC isR : List Nat) : Prop := isC.map (fun i => ws[i]?) = wc.map some ∧ va_nd isC = true ∧ isR.map (fun i => ws[i]?) = wr.map some ∧ va_nd isR = true ∧ ∀ i ∈ isR, i ∉ isC
theorem sub_P {D : va_G} {ws wc : va_W} {H : Heap} (hP : va_P D vwCl ws H) {is : List Nat} (h : is.map (fun i => ws[i]?) = wc.map some) : va_P D vwCl wc H := by
  intro k q hk
  have h1 : (is.map (fun i => ws[i]?))[k]? = some (some q) := by rw [h, List.getElem?_map, hk]; rfl
  rw [List.getElem?_map] at h1
  cases hi : is[k]? with
  | none => rw [hi] at h1; cases h1
  | some i => rw [hi] at h1; exact hP i q (Option.some.inj h1)
theorem ZZ.down {A B : Nat → Prop} {s U : State} {H : Heap} {locs : List Loc} (h : ZZ A s s.heap) (hvm : s.vm.Alike U.vm) (hS : va_S A s.heap H locs) (hB : ∀ q, B q → A q) : ZZ B U H :=
  ⟨vx_Zq.moved hvm ((h.1.kept hS.2.1).narrow hB), vx_Zq.moved hvm ((h.2.kept hS.2.1).narrow hB)⟩
/-- words of a call: virtual, static, special, and into a nest mate -/
def kV (own : String) (index : Nat) (y : MethodName) (bytes : ByteArray) (maxL : Nat) (ret : Option FieldType) (n : Nat) : Prop :=
  Cond.methodLink own index y ∈ gd_tbl ∧ Cond.instanceMethod y ∈ gd_tbl ∧ Cond.selects y.cls y y ∈ gd_tbl ∧ Cond.initialized y.cls ∈ gd_tbl ∧ Cond.code y bytes maxL ret ∈ gd_tbl ∧ y.cls ≠ "java/lang/invoke/MethodHandle" ∧ y.cls ≠ "java/lang/invoke/VarHandle" ∧ (parseMethodDescriptor y.desc).map (fun d => d.parameters.length) = some n
def kS (own : String) (index : Nat) (y : MethodName) (bytes : ByteArray) (maxL : Nat) (ret : Option FieldType) (n : Nat) : Prop :=
  Cond.methodLink own index y ∈ gd_tbl ∧ Cond.static y ∈ gd_tbl ∧ Cond.initialized y.cls ∈ gd_tbl ∧ Cond.code y bytes maxL ret ∈ gd_tbl ∧ y.cls ≠ "java/lang/invoke/MethodHandle" ∧ y.cls ≠ "java/lang/invoke/VarHandle" ∧ (parseMethodDescriptor y.desc).map (fun d => d.parameters.length) = some n
def kI (own : String) (index : Nat) (y : MethodName) (bytes : ByteArray) (maxL : Nat) (n : Nat) : Prop :=
  Cond.methodLink own index y ∈ gd_tbl ∧ Cond.instanceMethod y ∈ gd_tbl ∧ Cond.initialized y.cls ∈ gd_tbl ∧ Cond.code y bytes maxL none ∈ gd_tbl ∧ y.name = "<init>" ∧ y.cls ≠ "java/lang/invoke/MethodHandle" ∧ y.cls ≠ "java/lang/invoke/VarHandle" ∧ (parseMethodDescriptor y.desc).map (fun d => d.parameters.length) = some n
def kSN (own : String) (index : Nat) (host : String) (y : MethodName) (bytes : ByteArray) (maxL : Nat) (ret : Option FieldType) (n : Nat) : Prop :=
  (own, index, y, host) ∈ nests ∧ Cond.static y ∈ gd_tbl ∧ Cond.initialized y.cls ∈ gd_tbl ∧ Cond.code y bytes maxL ret ∈ gd_tbl ∧ y.cls ≠ "java/lang/invoke/MethodHandle" ∧ y.cls ≠ "java/lang/invoke/VarHandle" ∧ (parseMethodDescriptor y.desc).map (fun d => d.parameters.length) = some n
def kIN (own : String) (index : Nat) (host : String) (y : MethodName) (bytes : ByteArray) (maxL : Nat) (n : Nat) : Prop :=
  (own, index, y, host) ∈ nests ∧ Cond.instanceMethod y ∈ gd_tbl ∧ Cond.initialized y.cls ∈ gd_tbl ∧ Cond.code y bytes maxL none ∈ gd_tbl ∧ y.name = "<init>" ∧ y.cls ≠ "java/lang/invoke/MethodHandle" ∧ y.cls ≠ "java/lang/invoke/VarHandle" ∧ (parseMethodDescriptor y.desc).map (fun d => d.parameters.length) = some n
theorem gd_code {y : MethodName} {bytes : ByteArray} {maxL : Nat} {ret : Option FieldType} (h : Cond.code y bytes maxL ret ∈ gd_tbl) : GoodIn gd_tbl (.code y bytes maxL ret :: gd_tbl) := fun w hw => by
  rcases List.mem_cons.mp hw with rfl | hw
  · exact gd_good (fun _ h => h) _ h
  · exact gd_good (fun _ h => h) _ hw
section CALLS
variable {p : Program} {l : Launch} {e : Env} {R : Room} {s : State} {m : MethodId} {args : Array Value} {below : List Frame} {meth : Method} {c : Code} {H : Heap} {locs : List Loc} {cells slots : Nat} {Q : State → Prop}
variable {own nm : String} {cc : ByteArray} {ml : Nat} {ret ret0 : Option FieldType} {D : va_G} {ty : Nat → ClassId} {A : Nat → Prop} {pc : Nat} {ls : Array Slot} {rest st : List Value} {ws wc wr : va_W} {a b : Nat}
variable {y : MethodName} {bytes : ByteArray} {maxL index fr lo mc ms n : Nat} {host : String} {As : List Value} {Qf : QF} {px : String → Prop} {isC isR : List Nat}
theorem pre_of (C : Cx p s m args meth c own nm cc ml ret0 D ty A) (hP : va_P D vwCl ws H) (hD : va_D A ws) (hS : va_S A s.heap H locs) (ct : Cut ws wc wr isC isR) (av : List Value) : ∀ U : State, U.heap = H → s.WarmedH U.vm → cPre D ty av H.size wc av.toArray U := by
  intro U hU hW
  obtain ⟨⟨hx, hb, hml, hown, hts⟩, hr, hlocks, hnm9, hK, hE, hA, hZ⟩ := C
  have hF := va_free (wc := wc) hD hS hA isC ct.1
  exact ⟨rfl, by rw [hU], by rw [hU]; exact sub_P hP ct.1, va_K.moved hW.alike hK, (hD.sub isC ct.2.1 ct.1).weaken (fun _ _ _ _ => trivial), hE.warm hW, by rw [hU]; exact hZ.down hW.alike hS hF⟩
theorem run_V (C : Cx p s m args meth c own nm cc ml ret0 D ty A) (hP : va_P D vwCl ws H) (hD : va_D A ws) (hS : va_S A s.heap H locs) (ct : Cut ws wc wr isC isR) (hM : CC l D ty y bytes maxL ret fr lo mc ms (.ref b :: As) wc Qf) (kw : kV own index y bytes maxL ret n)
    (q0 : Nat) {ci : Nat} {fs : List Value} {q : vw_C} (he : ws[q0]? = some (b, .inr (ci, fs))) (hcl : vwCl[ci]? = some q) (hq : q.1 = y.cls) (hn : As.length = n) (hl : ls.size = ml) (hstack : st = As.reverse ++ .ref b :: rest) (hst : (rest.map fun v => v.category).sum ≤ 8) (hdg : decode cc pc = .ok (.invokevirtual index, 3)) (hR : fr + 1 ≤ R.frames ∧ 8 + (maxL + 11) + lo ≤ R.locals ∧ cells + mc ≤ R.cells ∧ slots + ms ≤ R.slots) :
    va_Run p l e R s m args below meth c H locs cells slots mc ms (F0 m pc ls st) rest (Qf (va_A wc H.size) (Value.ref b :: As).toArray) (va_A wc H.size) := by
  have hpre := pre_of C hP hD hS ct (Value.ref b :: As)
  obtain ⟨⟨hx, hb, hml, hown, hts⟩, hr, hlocks, hnm9, hK, hE, hA, hZ⟩ := C
  obtain ⟨k1, k2, k3, k4, k5, k6, k7, k8⟩ := kw
  have hrec := va_recv hK hP hcl he
  rw [hq] at hrec
  exact va_runV (Ts := gd_tbl) (own := own) (C := y.cls) (bytes := bytes) (maxL := maxL) (ret := ret) (cc := cc) (n := n) ⟨hx, hb, hml, hown, hts⟩ (hM H.size) ⟨callB_of n hts (gd_code k5) rfl rfl rfl (hts _ k4) (hts _ k1) ⟨k6, k7, k8⟩ ⟨hR.1, hR.2.1⟩, hts _ k2, hts _ k3⟩ ⟨cPre_blind, hrec, hpre⟩ rfl hn hl hstack (lv_room hst) hdg hR.2.2
theorem run_S (C : Cx p s m args meth c own nm cc ml ret0 D ty A) (hP : va_P D vwCl ws H) (hD : va_D A ws) (hS : va_S A s.heap H locs) (ct : Cut ws wc wr isC isR) (hM : CC l D ty y bytes maxL ret fr lo mc ms As wc Qf) (kw : kS own index y bytes maxL ret n)
    (hn : As.length = n) (hl : ls.size = ml) (hstack : st = As.reverse ++ rest) (hst : (rest.map fun v => v.category).sum ≤ 8) (hdg : decode cc pc = .ok (.invokestatic index, 3)) (hR : fr + 1 ≤ R.frames ∧ 8 + (maxL + 11) + lo ≤ R.locals ∧ cells + mc ≤ R.cells ∧ slots + ms ≤ R.slots) :
    va_Run p l e R s m args below meth c H locs cells slots mc ms (F0 m pc ls st) rest (Qf (va_A wc H.size) As.toArray) (va_A wc H.size) := by
  have hpre := pre_of C hP hD hS ct As
  obtain ⟨⟨hx, hb, hml, hown, hts⟩, hr, hlocks, hnm9, hK, hE, hA, hZ⟩ := C
  obtain ⟨k1, k2, k4, k5, k6, k7, k8⟩ := kw
  exact va_runS (Ts := gd_tbl) (own := own) (bytes := bytes) (maxL := maxL) (ret := ret) (cc := cc) (n := n) ⟨hx, hb, hml, hown, hts⟩ (hM H.size) ⟨callB_of n hts (gd_code k5) rfl rfl rfl (hts _ k4) (hts _ k1) ⟨k6, k7, k8⟩ ⟨hR.1, hR.2.1⟩, hts _ k2⟩ ⟨cPre_blind, hpre⟩ rfl hn hl hstack (lv_room hst) hdg hR.2.2
theorem run_I (C : Cx p s m args meth c own nm cc ml ret0 D ty A) (hP : va_P D vwCl ws H) (hD : va_D A ws) (hS : va_S A s.heap H locs) (ct : Cut ws wc wr isC isR) (hM : CC l D ty y bytes maxL none fr lo mc ms (.ref b :: As) wc Qf) (kw : kI own index y bytes maxL n)
    (hn : As.length = n) (hl : ls.size = ml) (hstack : st = As.reverse ++ .ref b :: rest) (hst : (rest.map fun v => v.category).sum ≤ 8) (hdg : decode cc pc = .ok (.invokespecial index, 3)) (hR : fr + 1 ≤ R.frames ∧ 8 + (maxL + 11) + lo ≤ R.locals ∧ cells + mc ≤ R.cells ∧ slots + ms ≤ R.slots) :
    va_Run p l e R s m args below meth c H locs cells slots mc ms (F0 m pc ls st) rest (Qf (va_A wc H.size) (Value.ref b :: As).toArray) (va_A wc H.size) := by
  have hpre := pre_of C hP hD hS ct (Value.ref b :: As)
  obtain ⟨⟨hx, hb, hml, hown, hts⟩, hr, hlocks, hnm9, hK, hE, hA, hZ⟩ := C
  obtain ⟨k1, k2, k4, k5, k9, k6, k7, k8⟩ := kw
  exact va_runI (Ts := gd_tbl) (own := own) (bytes := bytes) (maxL := maxL) (cc := cc) (n := n) ⟨hx, hb, hml, hown, hts⟩ (hM H.size) ⟨callB_of n hts (gd_code k5) rfl rfl rfl (hts _ k4) (hts _ k1) ⟨k6, k7, k8⟩ ⟨hR.1, hR.2.1⟩, k9, hts _ k2⟩ ⟨cPre_blind, hpre⟩ rfl hn hl hstack (lv_room hst) hdg hR.2.2
theorem run_SN (C : Cx p s m args meth c own nm cc ml ret0 D ty A) (hP : va_P D vwCl ws H) (hD : va_D A ws) (hS : va_S A s.heap H locs) (ct : Cut ws wc wr isC isR) (hM : CC l D ty y bytes maxL ret fr lo mc ms As wc Qf) (kw : kSN own index host y bytes maxL ret n)
    (hn : As.length = n) (hl : ls.size = ml) (hstack : st = As.reverse ++ rest) (hst : (rest.map fun v => v.category).sum ≤ 8) (hdg : decode cc pc = .ok (.invokestatic index, 3)) (hR : fr + 1 ≤ R.frames ∧ 8 + (maxL + 11) + lo ≤ R.locals ∧ cells + mc ≤ R.cells ∧ slots + ms ≤ R.slots) :
    va_Run p l e R s m args below meth c H locs cells slots mc ms (F0 m pc ls st) rest (Qf (va_A wc H.size) As.toArray) (va_A wc H.size) := by
  have hpre := pre_of C hP hD hS ct As
  obtain ⟨⟨hx, hb, hml, hown, hts⟩, hr, hlocks, hnm9, hK, hE, hA, hZ⟩ := C
  obtain ⟨k1, k2, k4, k5, k6, k7, k8⟩ := kw
  exact va_runSN (Ts := gd_tbl) (own := own) (host := host) (bytes := bytes) (maxL := maxL) (ret := ret) (cc := cc) (n := n) ⟨hx, hb, hml, hown, hts⟩ (hM H.size) ⟨va_cnB n hts (gd_code k5) rfl rfl rfl (hE.1 _ k1) (hts _ k4) ⟨k6, k7, k8⟩ ⟨hR.1, hR.2.1⟩, hts _ k2, trivial⟩ ⟨cPre_blind, hpre⟩ rfl hn hl hstack (lv_room hst) hdg hR.2.2
theorem run_IN (C : Cx p s m args meth c own nm cc ml ret0 D ty A) (hP : va_P D vwCl ws H) (hD : va_D A ws) (hS : va_S A s.heap H locs) (ct : Cut ws wc wr isC isR) (hM : CC l D ty y bytes maxL none fr lo mc ms (.ref b :: As) wc Qf) (kw : kIN own index host y bytes maxL n)
    (hn : As.length = n) (hl : ls.size = ml) (hstack : st = As.reverse ++ .ref b :: rest) (hst : (rest.map fun v => v.category).sum ≤ 8) (hdg : decode cc pc = .ok (.invokespecial index, 3)) (hR : fr + 1 ≤ R.frames ∧ 8 + (maxL + 11) + lo ≤ R.locals ∧ cells + mc ≤ R.cells ∧ slots + ms ≤ R.slots) :
    va_Run p l e R s m args below meth c H locs cells slots mc ms (F0 m pc ls st) rest (Qf (va_A wc H.size) (Value.ref b :: As).toArray) (va_A wc H.size) := by
  have hpre := pre_of C hP hD hS ct (Value.ref b :: As)
  obtain ⟨⟨hx, hb, hml, hown, hts⟩, hr, hlocks, hnm9, hK, hE, hA, hZ⟩ := C
  obtain ⟨k1, k2, k4, k5, k9, k6, k7, k8⟩ := kw
  exact va_runIN (Ts := gd_tbl) (own := own) (host := host) (bytes := bytes) (maxL := maxL) (cc := cc) (n := n) ⟨hx, hb, hml, hown, hts⟩ (hM H.size) ⟨va_cnB n hts (gd_code k5) rfl rfl rfl (hE.1 _ k1) (hts _ k4) ⟨k6, k7, k8⟩ ⟨hR.1, hR.2.1⟩, k9, hts _ k2⟩ ⟨cPre_blind, hpre⟩ rfl hn hl hstack (lv_room hst) hdg hR.2.2
theorem runx_V (C : Cx p s m args meth c own nm cc ml ret0 D ty A) (hP : va_P D vwCl ws H) (hD : va_D A ws) (hS : va_S A s.heap H locs) (ct : Cut ws wc wr isC isR) (hM : CX l D ty y bytes maxL ret fr lo mc ms (.ref b :: As) wc Qf px) (kw : kV own index y bytes maxL ret n)
    (q0 : Nat) {ci : Nat} {fs : List Value} {q : vw_C} (he : ws[q0]? = some (b, .inr (ci, fs))) (hcl : vwCl[ci]? = some q) (hq : q.1 = y.cls) (hn : As.length = n) (hl : ls.size = ml) (hstack : st = As.reverse ++ .ref b :: rest) (hst : (rest.map fun v => v.category).sum ≤ 8) (hdg : decode cc pc = .ok (.invokevirtual index, 3)) (hR : fr + 1 ≤ R.frames ∧ 8 + (maxL + 11) + lo ≤ R.locals ∧ cells + mc ≤ R.cells ∧ slots + ms ≤ R.slots) :
    vx_Run p l e R s m args below meth c H locs cells slots mc ms (F0 m pc ls st) rest (Qf (va_A wc H.size) (Value.ref b :: As).toArray) (XF px (va_A wc H.size)) (va_A wc H.size) := by
  have hpre := pre_of C hP hD hS ct (Value.ref b :: As)
  obtain ⟨⟨hx, hb, hml, hown, hts⟩, hr, hlocks, hnm9, hK, hE, hA, hZ⟩ := C
  obtain ⟨k1, k2, k3, k4, k5, k6, k7, k8⟩ := kw
  have hrec := va_recv hK hP hcl he
  rw [hq] at hrec
  exact vx_runV (Ts := gd_tbl) (own := own) (C := y.cls) (bytes := bytes) (maxL := maxL) (ret := ret) (cc := cc) (n := n) ⟨hx, hb, hml, hown, hts⟩ (hM H.size) ⟨callB_of n hts (gd_code k5) rfl rfl rfl (hts _ k4) (hts _ k1) ⟨k6, k7, k8⟩ ⟨hR.1, hR.2.1⟩, hts _ k2, hts _ k3⟩ ⟨cPre_blind, hrec, hpre⟩ rfl hn hl hstack (lv_room hst) hdg hR.2.2
theorem runx_S (C : Cx p s m args meth c own nm cc ml ret0 D ty A) (hP : va_P D vwCl ws H) (hD : va_D A ws) (hS : va_S A s.heap H locs) (ct : Cut ws wc wr isC isR) (hM : CX l D ty y bytes maxL ret fr lo mc ms As wc Qf px) (kw : kS own index y bytes maxL ret n)
    (hn : As.length = n) (hl : ls.size = ml) (hstack : st = As.reverse ++ rest) (hst : (rest.map fun v => v.category).sum ≤ 8) (hdg : decode cc pc = .ok (.invokestatic index, 3)) (hR : fr + 1 ≤ R.frames ∧ 8 + (maxL + 11) + lo ≤ R.locals ∧ cells + mc ≤ R.cells ∧ slots + ms ≤ R.slots) :
    vx_Run p l e R s m args below meth c H locs cells slots mc ms (F0 m pc ls st) rest (Qf (va_A wc H.size) As.toArray) (XF px (va_A wc H.size)) (va_A wc H.size) := by
  have hpre := pre_of C hP hD hS ct As
  obtain ⟨⟨hx, hb, hml, hown, hts⟩, hr, hlocks, hnm9, hK, hE, hA, hZ⟩ := C
  obtain ⟨k1, k2, k4, k5, k6, k7, k8⟩ := kw
  exact vx_runS (Ts := gd_tbl) (own := own) (bytes := bytes) (maxL := maxL) (ret := ret) (cc := cc) (n := n) ⟨hx, hb, hml, hown, hts⟩ (hM H.size) ⟨callB_of n hts (gd_code k5) rfl rfl rfl (hts _ k4) (hts _ k1) ⟨k6, k7, k8⟩ ⟨hR.1, hR.2.1⟩, hts _ k2⟩ ⟨cPre_blind, hpre⟩ rfl hn hl hstack (lv_room hst) hdg hR.2.2
-- behind a call
theorem back_of9 (C : Cx p s m args meth c own nm cc ml ret0 D ty A) (hP : va_P D vwCl ws H) (hD : va_D A ws) (hS : va_S A s.heap H locs) (ct : Cut ws wc wr isC isR) {t : State} {H1 : Heap} {w : va_W} (ht : t.heap = H1) (hB : cB D ty (va_A wc H.size) w t) (hk1 : ∀ q : Nat, q < H.size → ¬ va_A wc H.size q → H1[q]? = H[q]?) : va_P D vwCl (wr ++ w) H1 ∧ va_D A (wr ++ w) := by
  obtain ⟨⟨hx, hb, hml, hown, hts⟩, hr, hlocks, hnm9, hK, hE, hA, hZ⟩ := C
  obtain ⟨hP1, hK1, hD1⟩ := hB
  rw [ht] at hP1
  exact va_join hP hD isC isR ct.1 ct.2.2.1 ct.2.2.2.1 ct.2.2.2.2 hk1 (va_free hD hS hA isC ct.1) hP1 hD1
theorem free_of9 (C : Cx p s m args meth c own nm cc ml ret0 D ty A) (hD : va_D A ws) (hS : va_S A s.heap H locs) (ct : Cut ws wc wr isC isR) : ∀ q, va_A wc H.size q → A q := va_free hD hS C.2.2.2.2.2.2.1 isC ct.1
theorem cont_I {post : Int32 → va_W → Prop} {av : Array Value} (C : Cx p s m args meth c own nm cc ml ret0 D ty A) (hP : va_P D vwCl ws H) (hD : va_D A ws) (hS : va_S A s.heap H locs) (ct : Cut ws wc wr isC isR) (hr : va_Run p l e R s m args below meth c H locs cells slots mc ms (F0 m pc ls st) rest (QI D ty post (va_A wc H.size) av) (va_A wc H.size))
    (kk : ∀ (r : Int32) (w : va_W) (H1 : Heap) (locs1 : List Loc), post r w → va_P D vwCl (wr ++ w) H1 → va_D A (wr ++ w) → va_S A s.heap H1 locs1 → W p l e R s m args below meth c H1 locs1 (cells + mc) (slots + ms) Q (F0 m (pc + 3) ls (.int r :: rest))) : W p l e R s m args below meth c H locs cells slots Q (F0 m pc ls st) :=
  va_calli hr hS (fun q _ h => free_of9 C hD hS ct q h) (free_of9 C hD hS ct) (fun r w t H1 locs1 ht hvm hw hB hz1 hk1 hS1 => by
    obtain ⟨h1, h2⟩ := back_of9 C hP hD hS ct ht hB hk1
    exact kk r w H1 locs1 hw h1 h2 hS1)
theorem cont_L {post : Int64 → va_W → Prop} {av : Array Value} (C : Cx p s m args meth c own nm cc ml ret0 D ty A) (hP : va_P D vwCl ws H) (hD : va_D A ws) (hS : va_S A s.heap H locs) (ct : Cut ws wc wr isC isR) (hr : va_Run p l e R s m args below meth c H locs cells slots mc ms (F0 m pc ls st) rest (QL D ty post (va_A wc H.size) av) (va_A wc H.size))
    (kk : ∀ (r : Int64) (w : va_W) (H1 : Heap) (locs1 : List Loc), post r w → va_P D vwCl (wr ++ w) H1 → va_D A (wr ++ w) → va_S A s.heap H1 locs1 → W p l e R s m args below meth c H1 locs1 (cells + mc) (slots + ms) Q (F0 m (pc + 3) ls (.long r :: rest))) : W p l e R s m args below meth c H locs cells slots Q (F0 m pc ls st) :=
  va_calll hr hS (fun q _ h => free_of9 C hD hS ct q h) (free_of9 C hD hS ct) (fun r w t H1 locs1 ht hvm hw hB hz1 hk1 hS1 => by
    obtain ⟨h1, h2⟩ := back_of9 C hP hD hS ct ht hB hk1
    exact kk r w H1 locs1 hw h1 h2 hS1)
theorem cont_V {post : va_W → Prop} {av : Array Value} (C : Cx p s m args meth c own nm cc ml ret0 D ty A) (hP : va_P D vwCl ws H) (hD : va_D A ws) (hS : va_S A s.heap H locs) (ct : Cut ws wc wr isC isR) (hr : va_Run p l e R s m args below meth c H locs cells slots mc ms (F0 m pc ls st) rest (QV D ty post (va_A wc H.size) av) (va_A wc H.size))
    (kk : ∀ (w : va_W) (H1 : Heap) (locs1 : List Loc), post w → va_P D vwCl (wr ++ w) H1 → va_D A (wr ++ w) → va_S A s.heap H1 locs1 → W p l e R s m args below meth c H1 locs1 (cells + mc) (slots + ms) Q (F0 m (pc + 3) ls rest)) : W p l e R s m args below meth c H locs cells slots Q (F0 m pc ls st) :=
  va_callv hr hS (fun q _ h => free_of9 C hD hS ct q h) (free_of9 C hD hS ct) (fun w t H1 locs1 ht hvm hw hB hz1 hk1 hS1 => by
    obtain ⟨h1, h2⟩ := back_of9 C hP hD hS ct ht hB hk1
    exact kk w H1 locs1 hw h1 h2 hS1)
theorem cont_R {post : Nat → va_W → Prop} {av : Array Value} (C : Cx p s m args meth c own nm cc ml ret0 D ty A) (hP : va_P D vwCl ws H) (hD : va_D A ws) (hS : va_S A s.heap H locs) (ct : Cut ws wc wr isC isR) (hr : va_Run p l e R s m args below meth c H locs cells slots mc ms (F0 m pc ls st) rest (QR D ty post (va_A wc H.size) av) (va_A wc H.size))
    (kk : ∀ (r : Nat) (w : va_W) (H1 : Heap) (locs1 : List Loc), post r w → va_P D vwCl (wr ++ w) H1 → va_D A (wr ++ w) → va_S A s.heap H1 locs1 → W p l e R s m args below meth c H1 locs1 (cells + mc) (slots + ms) Q (F0 m (pc + 3) ls (.ref r :: rest))) : W p l e R s m args below meth c H locs cells slots Q (F0 m pc ls st) :=
  va_callr hr hS (fun q _ h => free_of9 C hD hS ct q h) (free_of9 C hD hS ct) (fun u ra t H1 locs1 ht hvm hw hB hz1 hk1 hS1 => by
    obtain ⟨w, r⟩ := u
    obtain ⟨rfl, hB⟩ := hB
    obtain ⟨h1, h2⟩ := back_of9 C hP hD hS ct ht hB hk1
    exact kk ra w H1 locs1 hw h1 h2 hS1)
-- behind a call that may throw: what it throws leaves this method too
theorem thru {px2 : String → Prop} {Qf2 : QF} {mc2 ms2 : Nat} (C : Cx p s m args meth c own nm cc ml ret0 D ty A) (hnt : ∀ x ∈ c.exceptionTable.toList, False) {E : String} {ce : Cell} {q9 : Addr} (hE : px2 E) (hS : va_S A s.heap H locs) (hq : H[q9]? = some ce) (hv : ce.vm = .none) (hcl : s.vm.findClass E = some ce.cls) (hc : cells ≤ mc2) (hs : slots ≤ ms2) :
    vx_W p l e R s m args below meth c H locs cells slots (vx_MQ below (Qf2 A) (XF px2 A) args s mc2 ms2 A) (F0 m pc ls rest) q9 :=
  vx_out (fun x hx => (hnt x hx).elim) C.2.2.1 hq hv hcl (fun t ht _ => ⟨(), trivial, hE, hS.F ht⟩) hS.2.2 hc hs
theorem contx_I {post : Int32 → va_W → Prop} {av : Array Value} {px2 : String → Prop} {Qf2 : QF} {mc2 ms2 : Nat} (C : Cx p s m args meth c own nm cc ml ret0 D ty A) (hnt : ∀ x ∈ c.exceptionTable.toList, False) (hP : va_P D vwCl ws H) (hD : va_D A ws) (hS : va_S A s.heap H locs) (ct : Cut ws wc wr isC isR) (hpx : ∀ E, px E → px2 E) (hc : cells + mc ≤ mc2) (hs : slots + ms ≤ ms2) (hr : vx_Run p l e R s m args below meth c H locs cells slots mc ms (F0 m pc ls st) rest (QI D ty post (va_A wc H.size) av) (XF px (va_A wc H.size)) (va_A wc H.size))
    (kk : ∀ (r : Int32) (w : va_W) (H1 : Heap) (locs1 : List Loc), post r w → va_P D vwCl (wr ++ w) H1 → va_D A (wr ++ w) → va_S A s.heap H1 locs1 → W p l e R s m args below meth c H1 locs1 (cells + mc) (slots + ms) (vx_MQ below (Qf2 A) (XF px2 A) args s mc2 ms2 A) (F0 m (pc + 3) ls (.int r :: rest))) : W p l e R s m args below meth c H locs cells slots (vx_MQ below (Qf2 A) (XF px2 A) args s mc2 ms2 A) (F0 m pc ls st) :=
  vx_calli hr hS (fun q _ h => free_of9 C hD hS ct q h) (free_of9 C hD hS ct) (fun q _ h => free_of9 C hD hS ct q h) (fun E ce q9 u t H1 locs1 ht hvm hu hB hz1 hk1 hS1 h1 h2 h3 => thru C hnt (hpx E hB) hS1 h1 h2 h3 hc hs) (fun r w t H1 locs1 ht hvm hw hB hz1 hk1 hS1 => by
    obtain ⟨h1, h2⟩ := back_of9 C hP hD hS ct ht hB hk1
    exact kk r w H1 locs1 hw h1 h2 hS1)
theorem contx_V {post : va_W → Prop} {av : Array Value} {px2 : String → Prop} {Qf2 : QF} {mc2 ms2 : Nat} (C : Cx p s m args meth c own nm cc ml ret0 D ty A) (hnt : ∀ x ∈ c.exceptionTable.toList, False) (hP : va_P D vwCl ws H) (hD : va_D A ws) (hS : va_S A s.heap H locs) (ct : Cut ws wc wr isC isR) (hpx : ∀ E, px E → px2 E) (hc : cells + mc ≤ mc2) (hs : slots + ms ≤ ms2) (hr : vx_Run p l e R s m args below meth c H locs cells slots mc ms (F0 m pc ls st) rest (QV D ty post (va_A wc H.size) av) (XF px (va_A wc H.size)) (va_A wc H.size))
    (kk : ∀ (w : va_W) (H1 : Heap) (locs1 : List Loc), post w → va_P D vwCl (wr ++ w) H1 → va_D A (wr ++ w) → va_S A s.heap H1 locs1 → W p l e R s m args below meth c H1 locs1 (cells + mc) (slots + ms) (vx_MQ below (Qf2 A) (XF px2 A) args s mc2 ms2 A) (F0 m (pc + 3) ls rest)) : W p l e R s m args below meth c H locs cells slots (vx_MQ below (Qf2 A) (XF px2 A) args s mc2 ms2 A) (F0 m pc ls st) :=
  vx_callv hr hS (fun q _ h => free_of9 C hD hS ct q h) (free_of9 C hD hS ct) (fun q _ h => free_of9 C hD hS ct q h) (fun E ce q9 u t H1 locs1 ht hvm hu hB hz1 hk1 hS1 h1 h2 h3 => thru C hnt (hpx E hB) hS1 h1 h2 h3 hc hs) (fun w t H1 locs1 ht hvm hw hB hz1 hk1 hS1 => by
    obtain ⟨h1, h2⟩ := back_of9 C hP hD hS ct ht hB hk1
    exact kk w H1 locs1 hw h1 h2 hS1)
-- a method's end
theorem ret_I {post : Int32 → va_W → Prop} {v : Int32} (C : Cx p s m args meth c own nm cc ml (some .int) D ty A) (hP : va_P D vwCl ws H) (hD : va_D A ws) (hS : va_S A s.heap H locs) {w : va_W} (is : List Nat) (hi : is.map (fun i => ws[i]?) = w.map some) (hn : va_nd is = true) (hp : post v w) (hc : cells ≤ mc) (hs : slots ≤ ms) (hdg : decode cc pc = .ok (.ireturn, 1)) : W p l e R s m args below meth c H locs cells slots (MQ below (QI D ty post A) args s mc ms A) (F0 m pc ls [.int v]) := by
  obtain ⟨⟨hx, hb, hml, hown, hts⟩, hr, hlocks, hnm9, hK, hE, hA, hZ⟩ := C
  refine W.widen hc hs ?_
  exact W.iret hx hb hr (fun t ht hW => ⟨⟨v, w, rfl, hp, by rw [ht]; exact sub_P hP hi, va_K.moved hW.alike hK, hD.sub is hn hi⟩, hS.F ht⟩) hS.2.2 hdg
theorem ret_Z {post : Int32 → va_W → Prop} {v : Int32} {fty : FieldType} (C : Cx p s m args meth c own nm cc ml (some fty) D ty A) (hv : narrow fty (.int v) = .int v) (hP : va_P D vwCl ws H) (hD : va_D A ws) (hS : va_S A s.heap H locs) {w : va_W} (is : List Nat) (hi : is.map (fun i => ws[i]?) = w.map some) (hn : va_nd is = true) (hp : post v w) (hc : cells ≤ mc) (hs : slots ≤ ms) (hdg : decode cc pc = .ok (.ireturn, 1)) : W p l e R s m args below meth c H locs cells slots (MQ below (QI D ty post A) args s mc ms A) (F0 m pc ls [.int v]) := by
  obtain ⟨⟨hx, hb, hml, hown, hts⟩, hr, hlocks, hnm9, hK, hE, hA, hZ⟩ := C
  refine W.widen hc hs ?_
  exact W.zret hx hb hr hv (fun t ht hW => ⟨⟨v, w, rfl, hp, by rw [ht]; exact sub_P hP hi, va_K.moved hW.alike hK, hD.sub is hn hi⟩, hS.F ht⟩) hS.2.2 hdg
theorem ret_L {post : Int64 → va_W → Prop} {v : Int64} (C : Cx p s m args meth c own nm cc ml (some .long) D ty A) (hP : va_P D vwCl ws H) (hD : va_D A ws) (hS : va_S A s.heap H locs) {w : va_W} (is : List Nat) (hi : is.map (fun i => ws[i]?) = w.map some) (hn : va_nd is = true) (hp : post v w) (hc : cells ≤ mc) (hs : slots ≤ ms) (hdg : decode cc pc = .ok (.lreturn, 1)) : W p l e R s m args below meth c H locs cells slots (MQ below (QL D ty post A) args s mc ms A) (F0 m pc ls [.long v]) := by
  obtain ⟨⟨hx, hb, hml, hown, hts⟩, hr, hlocks, hnm9, hK, hE, hA, hZ⟩ := C
  refine W.widen hc hs ?_
  exact W.lret hx hb hr (fun t ht hW => ⟨⟨v, w, rfl, hp, by rw [ht]; exact sub_P hP hi, va_K.moved hW.alike hK, hD.sub is hn hi⟩, hS.F ht⟩) hS.2.2 hdg
theorem ret_V {post : va_W → Prop} (C : Cx p s m args meth c own nm cc ml none D ty A) (hP : va_P D vwCl ws H) (hD : va_D A ws) (hS : va_S A s.heap H locs) {w : va_W} (is : List Nat) (hi : is.map (fun i => ws[i]?) = w.map some) (hn : va_nd is = true) (hp : post w) (hc : cells ≤ mc) (hs : slots ≤ ms) (hdg : decode cc pc = .ok (.return_, 1)) : W p l e R s m args below meth c H locs cells slots (MQ below (QV D ty post A) args s mc ms A) (F0 m pc ls []) := by
  obtain ⟨⟨hx, hb, hml, hown, hts⟩, hr, hlocks, hnm9, hK, hE, hA, hZ⟩ := C
  refine W.widen hc hs ?_
  exact W.vret hx hb hr (fun t ht hW => ⟨⟨w, rfl, hp, by rw [ht]; exact sub_P hP hi, va_K.moved hW.alike hK, hD.sub is hn hi⟩, hS.F ht⟩) hS.2.2 hdg
theorem ret_R {post : Nat → va_W → Prop} {v : Nat} {K : String} (C : Cx p s m args meth c own nm cc ml (some (.object K)) D ty A) (hP : va_P D vwCl ws H) (hD : va_D A ws) (hS : va_S A s.heap H locs) {w : va_W} (is : List Nat) (hi : is.map (fun i => ws[i]?) = w.map some) (hn : va_nd is = true) (hp : post v w) (hc : cells ≤ mc) (hs : slots ≤ ms) (hdg : decode cc pc = .ok (.areturn, 1)) : W p l e R s m args below meth c H locs cells slots (MQ below (QR D ty post A) args s mc ms A) (F0 m pc ls [.ref v]) := by
  obtain ⟨⟨hx, hb, hml, hown, hts⟩, hr, hlocks, hnm9, hK, hE, hA, hZ⟩ := C
  refine W.widen hc hs ?_
  exact W.aret hx hb hr (Or.inl ⟨_, rfl⟩) (Or.inr ⟨_, rfl⟩) (fun t ht hW => ⟨⟨(w, v), v, rfl, hp, rfl, by rw [ht]; exact sub_P hP hi, va_K.moved hW.alike hK, hD.sub is hn hi⟩, hS.F ht⟩) hS.2.2 hdg
/-- throw new E(text) out of this method -/
theorem r_throw {px2 : String → Prop} {Qf2 : QF} {mc2 ms2 : Nat} (C : Cx p s m args meth c own nm cc ml ret0 D ty A) (hnt : ∀ x ∈ c.exceptionTable.toList, False) (hl : l.stackTraces = false) (hS : va_S A s.heap H locs) {cls text : String} {ik is ic : Nat} (hcls : Bundle.fit cls = true) (hpl : plainName own = true)
    (hk : Cond.classLink own ik cls ∈ gd_tbl) (hini : Cond.initialized cls ∈ gd_tbl) (hstr : (own, is, text) ∈ strs) (hcast : (cls, cls) ∈ casts) (hat : ∀ w ∈ (vx_atS own ic cls ["java/lang/RuntimeException", "java/lang/Exception"]).filter goodWord, w ∈ gd_tbl) (hbad : ∀ w ∈ (vx_atS own ic cls ["java/lang/RuntimeException", "java/lang/Exception"]).filter (fun w => !goodWord w), w = Cond.castable cls cls ∨ ∃ y ∈ decls, w = Cond.declares y)
    (hgood : ∀ w ∈ Cond.classLink own ik cls :: Cond.initialized cls :: vx_atS own ic cls ["java/lang/RuntimeException", "java/lang/Exception"], vx_ot w = true) (hsz : ls.size = ml)
    (d0 : decode cc pc = .ok (.new ik, 3)) (d3 : decode cc (pc + 3) = .ok (.dup, 1)) (d4 : decode cc (pc + 4) = .ok (.ldc_w is, 3)) (d7 : decode cc (pc + 7) = .ok (.invokespecial ic, 3)) (d10 : decode cc (pc + 10) = .ok (.athrow, 1))
    (hR : 5 < R.frames ∧ (rest.map fun v => v.category).sum + 82 ≤ R.locals ∧ cells + 1 ≤ R.cells ∧ slots + 6 ≤ R.slots) (hE : px2 cls) (hc : cells + 1 ≤ mc2) (hs : slots + 6 ≤ ms2) :
    W p l e R s m args below meth c H locs cells slots (vx_MQ below (Qf2 A) (XF px2 A) args s mc2 ms2 A) (F0 m pc ls rest) := by
  obtain ⟨⟨hx, hb, hml, hown, hts⟩, hr, hlocks, hnm9, hK, hE9, hA, hZ⟩ := C
  obtain ⟨sa, hsa⟩ := hE9.2.2.2.1 _ hstr
  refine vx_throwSW (names := ["java/lang/RuntimeException", "java/lang/Exception"]) hx hb hl hown hcls (by decide +kernel) (hts _ hk) (hts _ hini) hsa (fun w hw => ?_) hgood hZ.1 hZ.2 hS (by rw [hml]; exact hsz) d0 d3 d4 d7 d10 (fun x hx => (hnt x hx).elim) hR.1 hR.2.1 hR.2.2.1 hR.2.2.2 hlocks (fun t hal hz hk => ⟨(), trivial, hE, Nat.le_trans hS.1 hz, fun q h1 h2 => (hk q (Nat.lt_of_lt_of_le h1 hS.1)).trans (hS.2.1 q h1 h2)⟩) hS.2.2 hc hs
  by_cases hg : goodWord w = true
  · exact hts _ (hat w (List.mem_filter.mpr ⟨hw, hg⟩))
  · rcases hbad w (List.mem_filter.mpr ⟨hw, by simpa using hg⟩) with h | ⟨y, hy, h⟩
    · rw [h]
      exact va_Nw.use rfl (hE9.2.2.2.2.1 _ hcast)
    · rw [h]
      exact va_Nw.use rfl (hE9.2.2.2.2.2.2 _ hy)
/-- the same, where the constructor links at another place -/
theorem r_throwN {px2 : String → Prop} {Qf2 : QF} {mc2 ms2 : Nat} (C : Cx p s m args meth c own nm cc ml ret0 D ty A) (hnt : ∀ x ∈ c.exceptionTable.toList, False) (hl : l.stackTraces = false) (hS : va_S A s.heap H locs) {cls text : String} {ik is ic ix : Nat} {bx : ByteArray} (b0 : decode bx 0 = .ok (.aload_n 0, 1)) (b1 : decode bx 1 = .ok (.aload_n 1, 1)) (b2 : decode bx 2 = .ok (.invokespecial ix, 3)) (b5 : decode bx 5 = .ok (.return_, 1)) (hcls : Bundle.fit cls = true) (hpl : plainName own = true)
    (hk : Cond.classLink own ik cls ∈ gd_tbl) (hini : Cond.initialized cls ∈ gd_tbl) (hstr : (own, is, text) ∈ strs) (hcast : (cls, cls) ∈ casts) (hat : ∀ w ∈ (vx_atN own ic cls ix bx "java/lang/RuntimeException" ["java/lang/Exception"]).filter goodWord, w ∈ gd_tbl) (hbad : ∀ w ∈ (vx_atN own ic cls ix bx "java/lang/RuntimeException" ["java/lang/Exception"]).filter (fun w => !goodWord w), w = Cond.castable cls cls ∨ ∃ y ∈ decls, w = Cond.declares y)
    (hgood : ∀ w ∈ Cond.classLink own ik cls :: Cond.initialized cls :: vx_atN own ic cls ix bx "java/lang/RuntimeException" ["java/lang/Exception"], vx_ot w = true) (hsz : ls.size = ml)
    (d0 : decode cc pc = .ok (.new ik, 3)) (d3 : decode cc (pc + 3) = .ok (.dup, 1)) (d4 : decode cc (pc + 4) = .ok (.ldc_w is, 3)) (d7 : decode cc (pc + 7) = .ok (.invokespecial ic, 3)) (d10 : decode cc (pc + 10) = .ok (.athrow, 1))
    (hR : 5 < R.frames ∧ (rest.map fun v => v.category).sum + 82 ≤ R.locals ∧ cells + 1 ≤ R.cells ∧ slots + 6 ≤ R.slots) (hE : px2 cls) (hc : cells + 1 ≤ mc2) (hs : slots + 6 ≤ ms2) :
    W p l e R s m args below meth c H locs cells slots (vx_MQ below (Qf2 A) (XF px2 A) args s mc2 ms2 A) (F0 m pc ls rest) := by
  obtain ⟨⟨hx, hb, hml, hown, hts⟩, hr, hlocks, hnm9, hK, hE9, hA, hZ⟩ := C
  obtain ⟨sa, hsa⟩ := hE9.2.2.2.1 _ hstr
  refine vx_throwSN (names := ["java/lang/Exception"]) (Yn := "java/lang/RuntimeException") hx hb hl b0 b1 b2 b5 (by decide +kernel) hown hcls (by decide +kernel) (hts _ hk) (hts _ hini) hsa (fun w hw => ?_) hgood hZ.1 hZ.2 hS (by rw [hml]; exact hsz) d0 d3 d4 d7 d10 (fun x hx => (hnt x hx).elim) hR.1 hR.2.1 hR.2.2.1 hR.2.2.2 hlocks (fun t hal hz hk => ⟨(), trivial, hE, Nat.le_trans hS.1 hz, fun q h1 h2 => (hk q (Nat.lt_of_lt_of_le h1 hS.1)).trans (hS.2.1 q h1 h2)⟩) hS.2.2 hc hs
  by_cases hg : goodWord w = true
  · exact hts _ (hat w (List.mem_filter.mpr ⟨hw, hg⟩))
  · rcases hbad w (List.mem_filter.mpr ⟨hw, by simpa using hg⟩) with h | ⟨y, hy, h⟩
    · rw [h]
      exact va_Nw.use rfl (hE9.2.2.2.2.1 _ hcast)
    · rw [h]
      exact va_Nw.use rfl (hE9.2.2.2.2.2.2 _ hy)
end CALLS
