theorem k_144 : Cond.instantiable "PinchedBill" 7 ∈ gd_tbl := gd_in 144 (by decide +kernel) (by decide +kernel)
theorem k_1488 : Cond.instantiable "PinchedBillModel" 40 ∈ gd_tbl := gd_in 1488 (by decide +kernel) (by decide +kernel)
theorem k_124 : Cond.initialized "java/lang/Throwable" ∈ gd_tbl := gd_in 124 (by decide +kernel) (by decide +kernel)
theorem zq_of {args : Array Value} {s : State} {C n d : String} (hl : (Cond.laysStatic C n d).before args s = true) (hini : (Cond.initialized C).before args s = true) (h : (Cond.isRef (.static C n d)).before args s = true) : vx_Zq C n d (fun q : Nat => s.heap.size ≤ q) s s.heap := by
  refine ⟨va_Zqof hl hini h (fun a ha => Nat.not_le.mpr ha), ?_⟩
  obtain ⟨c, k, i, f, a, cell, h1, h2, h3, h4, h5, h6, h7, h8, h9⟩ := Cond.laysStatic_spec (show (Cond.laysStatic C n d).holds args s none s [] = true from hl)
  exact ⟨c, k, i, f, a, cell, h1, h2, h3, h4, h5, h6, h7, h8, h9, Nat.not_le.mpr (Array.getElem?_eq_some_iff.mp h5).1⟩
theorem ty_of {args : Array Value} {s : State} {ft : FieldType} (h : (Cond.arrayClass ft).before args s = true) (hra : ∀ cA : ClassId, s.vm.findClass ("[" ++ ft.toString) = some cA → va_RA s cA ft) : ∃ cA : ClassId, ArrOfT s cA ft ∧ va_RA s cA ft := by
  obtain ⟨cA, kA, comp, h1, h2, h3⟩ := Cond.arrayClass_spec (show (Cond.arrayClass ft).holds args s none s [] = true from h)
  exact ⟨cA, fun n z => ⟨fun k h => (by cases h), kA, h2, comp, h3⟩, hra cA h1⟩
theorem ty_ob {s : State} {K : String} (h : va_AO K s) : ∃ cA : ClassId, ArrOfT s cA (.object K) ∧ va_RA s cA (.object K) := by
  obtain ⟨comp, c, k, h1, -, h2, h3, h4⟩ := Cond.arrayOver_spec h
  exact ⟨c, fun n z => ⟨fun k h => (by cases h), k, h2, comp, h3⟩, ⟨k, comp, h2, h3, h1, h4⟩⟩
theorem str_of {args : Array Value} {s : State} {own tx : String} {k : Nat} (h : (Cond.stringRef own k tx).before args s = true) : ∃ a : Nat, vk_R own k tx a s := by
  have h1 := h
  simp only [Cond.before, Cond.holds, Cond.value] at h1
  cases hr : s.resolvedAt? own k with
  | none => cases hc : s.vm.findClass own <;> simp [hr, hc] at h1
  | some r =>
    cases r with
    | string a =>
      refine ⟨a, vk_R.of h ?_⟩
      simp only [State.resolvedAt?] at hr
      simp only [Term.eval]
      cases hc : s.vm.findClass own with
      | none => simp [hc] at hr
      | some c0 =>
        simp only [hc, Option.bind_eq_bind, Option.bind_some] at hr ⊢
        cases hk : s.vm.classes[c0]? with
        | none => simp [hk] at hr
        | some kk =>
          simp only [hk, Option.bind_some] at hr ⊢
          rw [hr]
          rfl
    | _ => cases hc : s.vm.findClass own <;> simp [hr, hc] at h1
theorem nests_in : ∀ q ∈ nests, Cond.methodLinkNest q.1 q.2.1 q.2.2.1 q.2.2.2 ∈ lw_tbl := by decide +kernel
theorem strs_in : ∀ q ∈ strs, Cond.stringRef q.1 q.2.1 q.2.2 ∈ lw_tbl := by decide +kernel
theorem casts_in : ∀ q ∈ casts, Cond.castable q.1 q.2 ∈ lw_tbl := by decide +kernel
theorem decls_in : ∀ q ∈ decls, Cond.declares q ∈ lw_tbl := by decide +kernel
theorem ncs_in : ∀ q ∈ ncs, Cond.not (.castable q.1 q.2) ∈ flatC (Jvm.Cond.and given_1 narrow_1) := by decide +kernel
theorem law_env {s : State} {b : Nat} (hts : ∀ w ∈ lw_tbl, w.before #[Value.ref b] s = true) (hgv : (Jvm.Cond.and given_1 narrow_1).before #[Value.ref b] s = true) : ∃ (D : va_G) (ty : Nat → ClassId), va_K D vwCl (tysF ty) s ∧ EX s ∧ ZZ (fun q : Nat => s.heap.size ≤ q) s s.heap := by
  have hgt : ∀ w ∈ gd_tbl, w.before #[Value.ref b] s = true := fun w h => hts w (List.mem_filter.mp h).1
  have hfl := flat_of_before _ hgv
  obtain ⟨c0, i0, hKn0⟩ := u_known (C := RX0) (T := TX0) (N := 13) hgt lay_X0 (hgt _ k_158)
  obtain ⟨c1, i1, hKn1⟩ := u_known (C := RX1) (T := TX1) (N := 2) hgt lay_X1 (hgt _ k_1461)
  obtain ⟨c2, i2, hKn2⟩ := u_known (C := RX2) (T := TX2) (N := 5) hgt lay_X2 (hgt _ k_383)
  obtain ⟨c3, i3, hKn3⟩ := u_known (C := RX3) (T := TX3) (N := 11) hgt lay_X3 (hgt _ k_152)
  obtain ⟨c4, i4, hKn4⟩ := u_known (C := RX4) (T := TX4) (N := 18) hgt lay_X4 (hgt _ k_375)
  obtain ⟨c5, i5, hKn5⟩ := u_known (C := RX5) (T := TX5) (N := 6) hgt lay_X5 (hgt _ k_268)
  obtain ⟨c6, i6, hKn6⟩ := u_known (C := RX6) (T := TX6) (N := 3) hgt lay_X6 (hgt _ k_1381)
  obtain ⟨c7, i7, hKn7⟩ := u_known (C := RX7) (T := TX7) (N := 2) hgt lay_X7 (hgt _ k_274)
  obtain ⟨c8, i8, hKn8⟩ := u_known (C := RX8) (T := TX8) (N := 7) hgt lay_X8 (hgt _ k_144)
  obtain ⟨c9, i9, hKn9⟩ := u_known (C := RX9) (T := TX9) (N := 40) hgt lay_X9 (hgt _ k_1488)
  obtain ⟨t0, ht0⟩ := ty_of (hgt _ k_225) (fun _ h => h)
  obtain ⟨t1, ht1⟩ := ty_of (hgt _ k_264) (fun _ h => h)
  obtain ⟨t2, ht2⟩ := ty_of (hgt _ k_1666) (fun _ h => h)
  obtain ⟨t3, ht3⟩ := ty_of (hgt _ k_1398) (fun _ h => h)
  have hao4 : va_AO "PinchedBill$Tray" s := hts (.arrayOver (.object "PinchedBill$Tray")) (List.mem_of_getElem? (i := 317) (by decide +kernel))
  obtain ⟨t4, ht4⟩ := ty_ob hao4
  have hao5 : va_AO "PinchedBill$Image" s := hts (.arrayOver (.object "PinchedBill$Image")) (List.mem_of_getElem? (i := 319) (by decide +kernel))
  obtain ⟨t5, ht5⟩ := ty_ob hao5
  refine ⟨(fun k => match k with | 0 => c0 | 1 => c1 | 2 => c2 | 3 => c3 | 4 => c4 | 5 => c5 | 6 => c6 | 7 => c7 | 8 => c8 | _ => c9, fun k => match k with | 0 => i0 | 1 => i1 | 2 => i2 | 3 => i3 | 4 => i4 | 5 => i5 | 6 => i6 | 7 => i7 | 8 => i8 | _ => i9), fun k => match k with | 0 => t0 | 1 => t1 | 2 => t2 | 3 => t3 | 4 => t4 | _ => t5, ⟨?_, ?_⟩, ?_, ?_⟩
  · intro k q hq
    match k, hq with
    | 0, hq => cases hq; exact hKn0
    | 1, hq => cases hq; exact hKn1
    | 2, hq => cases hq; exact hKn2
    | 3, hq => cases hq; exact hKn3
    | 4, hq => cases hq; exact hKn4
    | 5, hq => cases hq; exact hKn5
    | 6, hq => cases hq; exact hKn6
    | 7, hq => cases hq; exact hKn7
    | 8, hq => cases hq; exact hKn8
    | 9, hq => cases hq; exact hKn9
    | k + 10, hq => simp [vwCl] at hq
  · intro k q hq
    match k, hq with
    | 0, hq => cases hq; exact ht0
    | 1, hq => cases hq; exact ht1
    | 2, hq => cases hq; exact ht2
    | 3, hq => cases hq; exact ht3
    | 4, hq => cases hq; exact ht4
    | 5, hq => cases hq; exact ht5
    | k + 6, hq => simp [tysF] at hq
  · exact ⟨fun q hq => va_Nw.of rfl (hts _ (nests_in q hq)), hao4, hao5, fun q hq => str_of (hts _ (strs_in q hq)), fun q hq => va_Nw.of rfl (hts _ (casts_in q hq)), fun q hq => va_Nc.of (hfl _ (ncs_in q hq)), fun q hq => va_Nw.of rfl (hts _ (decls_in q hq))⟩
  · exact ⟨zq_of (hts _ (List.mem_of_getElem? (i := 691) (by decide +kernel))) (hgt _ k_124) (hfl _ (by decide +kernel)), zq_of (hts _ (List.mem_of_getElem? (i := 693) (by decide +kernel))) (hgt _ k_124) (hfl _ (by decide +kernel))⟩
section LAW
variable {p : Program} {l : Launch} {e : Env} {R : Room} {s : State} {m : MethodId} {args : Array Value} {below : List Frame} {meth : Method} {c : Code} {H : Heap} {locs : List Loc} {cells slots : Nat} {Q : State → Prop}
variable {own nm : String} {cc : ByteArray} {ml : Nat} {ret ret0 : Option FieldType} {D : va_G} {ty : Nat → ClassId} {A : Nat → Prop} {pc : Nat} {ls : Array Slot} {rest st : List Value} {ws wc wr : va_W} {mc ms : Nat} {isC isR : List Nat}
theorem contw_I {post : Int32 → va_W → Prop} {av : Array Value} (C : Cx p s m args meth c own nm cc ml ret0 D ty A) (hP : va_P D vwCl ws H) (hD : va_D A ws) (hS : va_S A s.heap H locs) (ct : Cut ws wc wr isC isR) (hr : vx_Run p l e R s m args below meth c H locs cells slots mc ms (F0 m pc ls st) rest (QI D ty post (va_A wc H.size) av) (XF (fun _ => False) (va_A wc H.size)) (va_A wc H.size))
    (kk : ∀ (r : Int32) (w : va_W) (H1 : Heap) (locs1 : List Loc), post r w → va_P D vwCl (wr ++ w) H1 → va_D A (wr ++ w) → va_S A s.heap H1 locs1 → W p l e R s m args below meth c H1 locs1 (cells + mc) (slots + ms) Q (F0 m (pc + 3) ls (.int r :: rest))) : W p l e R s m args below meth c H locs cells slots Q (F0 m pc ls st) :=
  contc_I C hP hD hS ct hr (fun E ce q9 H1 locs1 h => h.elim) kk
theorem r_sld (C : Cx p s m args meth c own nm cc ml ret0 D ty A) {b L : Nat} {xs : Nat → Int32} (hX : va_X b L xs s s.heap) (hbl : b < s.heap.size) (hbA : ¬ A b) (hS : va_S A s.heap H locs) {i : Int32} (k : Nat) (hi : i = nI k) (hk : k < L) (hL : k < 2 ^ 31) {v : Int32} (hv : xs k = v) (hdg : decode cc pc = .ok (.iaload, 1))
    (kk : W p l e R s m args below meth c H locs cells slots Q (F0 m (pc + 1) ls (.int v :: rest))) : W p l e R s m args below meth c H locs cells slots Q (F0 m pc ls (.int i :: .ref b :: rest)) := by
  subst hi; subst hv
  refine va_sld C.1.1 C.1.2.1 hX hbl hbA hS (i := nI k) ?_ hdg ?_
  · intro h
    rcases h with h | h
    · exact absurd h (n_nlt k 0 rfl rfl (by omega) hL)
    · rw [nI_clamp hL] at h; omega
  · rw [nI_clamp hL]; exact kk
end LAW
theorem dV_T {j : Nat} (h : j < 10) : dV (nI (100 * j)) = 0 := by unfold dV; rw [if_pos (bB_ok h)]
theorem dV_F {b : Int32} (h : ¬ bB b = 1) : dV b = -1 := by unfold dV; rw [if_neg h]
theorem sV_m (b : Int32) : sV b (-1) = 0 := by unfold sV; rw [if_pos (Or.inl rfl)]
theorem sV_e (b : Int32) : sV b b = 0 := by unfold sV; rw [if_pos (Or.inr rfl)]
theorem sV_d {j g : Nat} (hj : j < 10) (hg : g < 10) (h : j ≠ g) : sV (nI (100 * j)) (nI (100 * g)) = -1 := by
  unfold sV
  rw [if_neg]
  rintro (h1 | h1)
  · exact n_neneg (100 * g) rfl (by omega) (by decide) h1
  · exact n_ne (100 * g) (100 * j) rfl rfl (by omega) (by omega) (by omega) h1
theorem l2z {x : Int32} {y : Int64} (z : Int32) (h : x = z) (hz : z.toInt64 = y) : lg_cmp x.toInt64 y = 0 := by subst h; subst hz; exact (lg_cmp_eq _ _).mpr rfl
theorem l2n {x : Int32} (a : Nat) (h : x = nI a) (ha : a < 2 ^ 31) : lg_cmp x.toInt64 (lN a) = 0 := by subst h; exact (lg_cmp_eq _ _).mpr (nI_l ha)
theorem l2l {x y : Int64} (h : x = y) : lg_cmp x y = 0 := (lg_cmp_eq _ _).mpr h
