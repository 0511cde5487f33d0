-- of a bill with one line
def bB (b : Int32) : Int32 := if b < 0 then 0 else if 1000 ≤ b then 0 else if b - b / 100 * 100 = 0 then 1 else 0
theorem bB_0 {b : Int32} (h : ¬ bB b = 1) : bB b = 0 := by
  unfold bB at h ⊢
  split
  · rfl
  · split
    · rfl
    · split
      · rename_i h1 h2 h3
        simp [h1, h2, h3] at h
      · rfl
theorem bB_of {b : Int32} (h : bB b = 1) : ∃ j : Nat, j < 10 ∧ b = nI (100 * j) := by
  unfold bB at h
  split at h
  · exact absurd h (by decide)
  · split at h
    · exact absurd h (by decide)
    · split at h
      · rename_i h1 h2 h3
        obtain ⟨a, ha, rfl⟩ := nI_of h1
        have h4 : a < 1000 := un_nle 1000 a rfl rfl (by omega) (by omega) h2
        have h5 : nI a - nI a / 100 * 100 = nI (a % 100) := a_rem a 100 (a % 100) rfl rfl (by omega) (by omega) (by omega) rfl
        rw [h5] at h3
        have h6 : a % 100 = 0 := un_eq (a % 100) 0 rfl rfl (by omega) (by omega) h3
        exact ⟨a / 100, by omega, by congr 1; omega⟩
      · exact absurd h (by decide)
theorem bB_ok {j : Nat} (h : j < 10) : bB (nI (100 * j)) = 1 := by
  unfold bB
  rw [if_neg (show ¬ nI (100 * j) < 0 from n_nlt (100 * j) 0 rfl rfl (by omega) (by omega)), if_neg (show ¬ 1000 ≤ nI (100 * j) from n_nle 1000 (100 * j) rfl rfl (by omega) (by omega)), if_pos]
  exact a_rem (100 * j) 100 0 rfl rfl (by omega) (by omega) (by omega) (by omega)
theorem m1p1 (a : Nat) : nI a + (-1) + 1 = nI a := by
  have h : ∀ x : Int32, x + (-1) + 1 = x := by intro x; rw [Int32.add_assoc]; simp
  exact h _
theorem lc_lt {x y : Int64} (a b : Nat) (hx : x = lN a) (hy : y = lN b) (h : a < b) (ha : a < 2 ^ 31) (hb : b < 2 ^ 31) : lg_cmp x y = -1 := by
  subst hx; subst hy
  unfold lg_cmp
  rw [if_neg (by show ¬ lN b < lN a; rw [lN_lt hb ha]; omega), if_neg (by rw [lN_eq ha hb]; omega)]
theorem lc_eq {x y : Int64} (a b : Nat) (hx : x = lN a) (hy : y = lN b) (h : a = b) (ha : a < 2 ^ 31) (hb : b < 2 ^ 31) : lg_cmp x y = 0 := by
  subst hx; subst hy; subst h
  unfold lg_cmp
  rw [if_neg (by show ¬ lN a < lN a; rw [lN_lt hb ha]; omega), if_pos rfl]
theorem lc_gt {x y : Int64} (a b : Nat) (hx : x = lN a) (hy : y = lN b) (h : b < a) (ha : a < 2 ^ 31) (hb : b < 2 ^ 31) : lg_cmp x y = 1 := by
  subst hx; subst hy
  unfold lg_cmp
  rw [if_pos (by show lN b < lN a; rw [lN_lt hb ha]; exact h)]
theorem lc_neg {x y : Int64} (a : Nat) (hx : x = lN a) (ha : a < 2 ^ 31) (hy : y < 0) : lg_cmp x y = 1 := by
  subst hx
  unfold lg_cmp
  rw [if_pos]
  show y < lN a
  have h1 : (lN a).toInt = a := lN_toInt ha
  rw [Int64.lt_iff_toInt_lt] at hy ⊢
  rw [h1]
  have : (0 : Int64).toInt = 0 := by decide
  omega
theorem topeq {p : Program} {l : Launch} {e : Env} {R : Room} {s : State} {m : MethodId} {args : Array Value} {below : List Frame} {meth : Method} {c : Code} {H : Heap} {locs : List Loc} {cells slots : Nat} {Q : State → Prop} {pc : Nat} {ls : Array Slot} {rest : List Value} {x z : Int32} (h : x = z) (k : W p l e R s m args below meth c H locs cells slots Q (F0 m pc ls (.int z :: rest))) : W p l e R s m args below meth c H locs cells slots Q (F0 m pc ls (.int x :: rest)) := by rw [h]; exact k
theorem rng_of {n : Int32} (h : ¬ n < 0) {M : Int32} {k : Nat} (hM : M = nI k) (hk : k < 2 ^ 31) (h2 : ¬ M < n) : ∃ a : Nat, a ≤ k ∧ n = nI a := by
  obtain ⟨a, ha, rfl⟩ := nI_of h
  exact ⟨a, un_nlt k a hM rfl hk ha h2, rfl⟩
/-- a row that holds 0 or 1 -/
def B01 (f : Nat → Int32) : Prop := ∀ j, f j = 0 ∨ f j = 1
theorem B01_0 : B01 (fun _ => 0) := fun _ => Or.inl rfl
theorem B01_u {f : Nat → Int32} (h : B01 f) (k : Nat) : B01 (upd f k 1) := fun j => by
  by_cases hj : j = k
  · subst hj; exact Or.inr pk_us
  · rw [pk_un hj]; exact h j
theorem B01_m {f : Nat → Int32} (h : B01 f) {k : Nat} (h1 : ¬ f k = 0) : f k - 1 = 0 := by
  rcases h k with h2 | h2
  · exact absurd h2 h1
  · rw [h2]; decide
/-- marks below c -/
def MK (g : Nat → Int32) (c : Nat) : Prop := ∀ j, ∃ k, k < c ∧ g j = nI k
theorem MK_0 : MK (fun _ => 0) 1 := fun _ => ⟨0, by omega, rfl⟩
theorem MK_u {g : Nat → Int32} {c : Nat} (h : MK g c) (k : Nat) : MK (upd g k (nI c)) (c + 9001) := fun j => by
  by_cases hj : j = k
  · subst hj; exact ⟨c, by omega, pk_us⟩
  · rw [pk_un hj]; obtain ⟨k1, h1, h2⟩ := h j; exact ⟨k1, by omega, h2⟩
theorem up_I {f h : Nat → Int32} {i : Nat} {x : Int32} (H : ∀ j, j < i → f j = h j) (hx : x = h i) : ∀ j, j < i + 1 → upd f i x j = h j := fun j hj => by
  by_cases h1 : j = i
  · subst h1; rw [pk_us]; exact hx
  · rw [pk_un h1]; exact H j (by omega)
theorem up_L {f h : Nat → Int64} {i : Nat} {x : Int64} (H : ∀ j, j < i → f j = h j) (hx : x = h i) : ∀ j, j < i + 1 → vp_updL f i x j = h j := fun j hj => by
  by_cases h1 : j = i
  · subst h1; rw [pk_uLs]; exact hx
  · rw [pk_uLn h1]; exact H j (by omega)
theorem n_gtneg {x y : Int32} (a : Nat) (hx : x = nI a) (ha : a < 2 ^ 31) (hy : y < 0) : y < x := by
  subst hx
  have h1 : (nI a).toInt = a := nI_toInt ha
  rw [Int32.lt_iff_toInt_lt] at hy ⊢
  rw [h1]
  have : (0 : Int32).toInt = 0 := by decide
  omega
theorem n_neneg {x y : Int32} (a : Nat) (hx : x = nI a) (ha : a < 2 ^ 31) (hy : y < 0) : ¬ x = y := fun h => by
  have h1 := n_gtneg a hx ha hy
  rw [h] at h1
  exact absurd h1 (by simp)
theorem n_negne {x y : Int32} (a : Nat) (hx : x = nI a) (ha : a < 2 ^ 31) (hy : y < 0) : ¬ y = x := fun h => n_neneg a hx ha hy h.symm
theorem n_nleneg {x y : Int32} (a : Nat) (hx : x = nI a) (ha : a < 2 ^ 31) (hy : y < 0) : ¬ x ≤ y := by
  have h1 := n_gtneg a hx ha hy
  rw [Int32.lt_iff_toInt_lt] at h1
  rw [Int32.le_iff_toInt_le]
  omega
/-- the a-th law of a fresh house -/
def fA (a : Nat) : Int32 := if a < 10 then nI (a * 100) else -1
theorem fA_in {a : Nat} (h : a < 10) : nI (a * 100) = fA a := by unfold fA; rw [if_pos h]
theorem fA_out {a : Nat} (h : 10 ≤ a) : -1 = fA a := by unfold fA; rw [if_neg (by omega)]
section LOOPS
variable {p : Program} {l : Launch} {e : Env} {R : Room} {s : State} {m : MethodId} {args : Array Value} {below : List Frame} {meth : Method} {c : Code} {H : Heap} {locs : List Loc} {cells slots : Nat} {Q : State → Prop} {pc : Nat} {ls : Array Slot}
theorem loopW6 {α β γ δ ε ζ : Type} (I : α → β → γ → δ → ε → ζ → Heap → List Loc → Array Slot → Prop) (μ : α → β → γ → δ → ε → ζ → Nat) (step : ∀ (x0 : α) (x1 : β) (x2 : γ) (x3 : δ) (x4 : ε) (x5 : ζ) (H : Heap) (locs : List Loc) (ls : Array Slot), I x0 x1 x2 x3 x4 x5 H locs ls → (∀ (y0 : α) (y1 : β) (y2 : γ) (y3 : δ) (y4 : ε) (y5 : ζ) (H' : Heap) (locs' : List Loc) (ls' : Array Slot), μ y0 y1 y2 y3 y4 y5 < μ x0 x1 x2 x3 x4 x5 → I y0 y1 y2 y3 y4 y5 H' locs' ls' → W p l e R s m args below meth c H' locs' cells slots Q (F0 m pc ls' [])) → W p l e R s m args below meth c H locs cells slots Q (F0 m pc ls [])) (x0 : α) (x1 : β) (x2 : γ) (x3 : δ) (x4 : ε) (x5 : ζ) (h0 : I x0 x1 x2 x3 x4 x5 H locs ls) : W p l e R s m args below meth c H locs cells slots Q (F0 m pc ls []) :=
  loopW5 (α := α) (β := β) (γ := γ) (δ := δ) (ε := ε × ζ) (fun x0 x1 x2 x3 z => I x0 x1 x2 x3 z.1 z.2) (fun x0 x1 x2 x3 z => μ x0 x1 x2 x3 z.1 z.2) (fun x0 x1 x2 x3 z H locs ls hI ih => step x0 x1 x2 x3 z.1 z.2 H locs ls hI (fun y0 y1 y2 y3 y4 y5 => ih y0 y1 y2 y3 (y4, y5))) x0 x1 x2 x3 (x4, x5) h0
theorem loopW7 {α β γ δ ε ζ η : Type} (I : α → β → γ → δ → ε → ζ → η → Heap → List Loc → Array Slot → Prop) (μ : α → β → γ → δ → ε → ζ → η → Nat) (step : ∀ (x0 : α) (x1 : β) (x2 : γ) (x3 : δ) (x4 : ε) (x5 : ζ) (x6 : η) (H : Heap) (locs : List Loc) (ls : Array Slot), I x0 x1 x2 x3 x4 x5 x6 H locs ls → (∀ (y0 : α) (y1 : β) (y2 : γ) (y3 : δ) (y4 : ε) (y5 : ζ) (y6 : η) (H' : Heap) (locs' : List Loc) (ls' : Array Slot), μ y0 y1 y2 y3 y4 y5 y6 < μ x0 x1 x2 x3 x4 x5 x6 → I y0 y1 y2 y3 y4 y5 y6 H' locs' ls' → W p l e R s m args below meth c H' locs' cells slots Q (F0 m pc ls' [])) → W p l e R s m args below meth c H locs cells slots Q (F0 m pc ls [])) (x0 : α) (x1 : β) (x2 : γ) (x3 : δ) (x4 : ε) (x5 : ζ) (x6 : η) (h0 : I x0 x1 x2 x3 x4 x5 x6 H locs ls) : W p l e R s m args below meth c H locs cells slots Q (F0 m pc ls []) :=
  loopW6 (α := α) (β := β) (γ := γ) (δ := δ) (ε := ε) (ζ := ζ × η) (fun x0 x1 x2 x3 x4 z => I x0 x1 x2 x3 x4 z.1 z.2) (fun x0 x1 x2 x3 x4 z => μ x0 x1 x2 x3 x4 z.1 z.2) (fun x0 x1 x2 x3 x4 z H locs ls hI ih => step x0 x1 x2 x3 x4 z.1 z.2 H locs ls hI (fun y0 y1 y2 y3 y4 y5 y6 => ih y0 y1 y2 y3 y4 (y5, y6))) x0 x1 x2 x3 x4 (x5, x6) h0
theorem loopW8 {α β γ δ ε ζ η θ : Type} (I : α → β → γ → δ → ε → ζ → η → θ → Heap → List Loc → Array Slot → Prop) (μ : α → β → γ → δ → ε → ζ → η → θ → Nat) (step : ∀ (x0 : α) (x1 : β) (x2 : γ) (x3 : δ) (x4 : ε) (x5 : ζ) (x6 : η) (x7 : θ) (H : Heap) (locs : List Loc) (ls : Array Slot), I x0 x1 x2 x3 x4 x5 x6 x7 H locs ls → (∀ (y0 : α) (y1 : β) (y2 : γ) (y3 : δ) (y4 : ε) (y5 : ζ) (y6 : η) (y7 : θ) (H' : Heap) (locs' : List Loc) (ls' : Array Slot), μ y0 y1 y2 y3 y4 y5 y6 y7 < μ x0 x1 x2 x3 x4 x5 x6 x7 → I y0 y1 y2 y3 y4 y5 y6 y7 H' locs' ls' → W p l e R s m args below meth c H' locs' cells slots Q (F0 m pc ls' [])) → W p l e R s m args below meth c H locs cells slots Q (F0 m pc ls [])) (x0 : α) (x1 : β) (x2 : γ) (x3 : δ) (x4 : ε) (x5 : ζ) (x6 : η) (x7 : θ) (h0 : I x0 x1 x2 x3 x4 x5 x6 x7 H locs ls) : W p l e R s m args below meth c H locs cells slots Q (F0 m pc ls []) :=
  loopW7 (α := α) (β := β) (γ := γ) (δ := δ) (ε := ε) (ζ := ζ) (η := η × θ) (fun x0 x1 x2 x3 x4 x5 z => I x0 x1 x2 x3 x4 x5 z.1 z.2) (fun x0 x1 x2 x3 x4 x5 z => μ x0 x1 x2 x3 x4 x5 z.1 z.2) (fun x0 x1 x2 x3 x4 x5 z H locs ls hI ih => step x0 x1 x2 x3 x4 x5 z.1 z.2 H locs ls hI (fun y0 y1 y2 y3 y4 y5 y6 y7 => ih y0 y1 y2 y3 y4 y5 (y6, y7))) x0 x1 x2 x3 x4 x5 (x6, x7) h0
end LOOPS
