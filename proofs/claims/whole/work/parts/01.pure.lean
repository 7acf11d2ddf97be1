theorem pk_us {f : Nat → Int32} {k : Nat} {x : Int32} : upd f k x k = x := if_pos rfl
theorem pk_un {f : Nat → Int32} {k j : Nat} {x : Int32} (h : j ≠ k) : upd f k x j = f j := if_neg h
theorem pk_m1 (n : Nat) : nI (n + 1) + (-1) = nI n := by
  rw [← nI_1, Int32.add_assoc, show (1 : Int32) + (-1) = 0 from rfl, Int32.add_zero]
theorem pk_ix (x : Int32) {n : Nat} (hn : n < 2 ^ 31) : x < 0 ∨ nI n ≤ x ∨ ∃ j : Nat, j < n ∧ x = nI j := by
  by_cases h : x < 0
  · exact Or.inl h
  · obtain ⟨j, hj, rfl⟩ := nI_of h
    by_cases h2 : j < n
    · exact Or.inr (Or.inr ⟨j, h2, rfl⟩)
    · exact Or.inr (Or.inl (nI_le (by omega) hj))
theorem pk_le {x y : Int32} {A B : Prop} (a b : Nat) (f : a ≤ b → A) (g : b < a → B) (hx : x = nI a := by rfl) (hy : y = nI b := by rfl) (ha : a < 2 ^ 31 := by omega) (hb : b < 2 ^ 31 := by omega) : (x ≤ y → A) ∧ (¬ x ≤ y → B) := by
  subst hx hy
  rw [nI_leI ha hb]
  exact ⟨f, fun z => g (by omega)⟩
theorem pk_lt {x y : Int32} {A B : Prop} (a b : Nat) (f : a < b → A) (g : b ≤ a → B) (hx : x = nI a := by rfl) (hy : y = nI b := by rfl) (ha : a < 2 ^ 31 := by omega) (hb : b < 2 ^ 31 := by omega) : (x < y → A) ∧ (¬ x < y → B) := by
  subst hx hy
  rw [nI_ltI ha hb]
  exact ⟨f, fun z => g (by omega)⟩
theorem pk_eq {x y : Int32} {A B : Prop} (a b : Nat) (f : a = b → A) (g : a ≠ b → B) (hx : x = nI a := by rfl) (hy : y = nI b := by rfl) (ha : a < 2 ^ 31 := by omega) (hb : b < 2 ^ 31 := by omega) : (x = y → A) ∧ (¬ x = y → B) := by
  subst hx hy
  rw [nI_eq ha hb]
  exact ⟨f, g⟩
theorem pk_in {x : Int32} (n N : Nat) (h : n < N) (hx : x = nI n := by rfl) (hN : N < 2 ^ 31 := by omega) : vp_in x N := by
  subst hx
  exact vp_in_nI h hN
theorem pk_cl {x : Int32} (n : Nat) (hx : x = nI n := by rfl) (h : n < 2 ^ 31 := by omega) : x.toNatClampNeg = n := by
  subst hx
  exact nI_clamp h
/-- a name of one of the eight numbers -/
def fo_Num (x : Int32) : Prop := ∃ i : Nat, i < 8 ∧ x = nI i
/-- a place that a jump may name -/
def fo_Plc (x : Int32) : Prop := ∃ i : Nat, i < 21 ∧ x = nI i
theorem fo_num_iff (x : Int32) : fo_Num x ↔ 0 ≤ x ∧ x < 8 := by
  constructor
  · rintro ⟨i, hi, rfl⟩
    exact ⟨nI_pos' (by omega), nI_lt (b := 8) hi (by decide)⟩
  · rintro ⟨h0, h8⟩
    obtain ⟨j, hj, rfl⟩ := nI_of (Int32.not_lt.mpr h0)
    refine ⟨j, ?_, rfl⟩
    have h : nI j < nI 8 := h8
    rwa [nI_ltI hj (by decide)] at h
theorem fo_plc_iff (x : Int32) : fo_Plc x ↔ 0 ≤ x ∧ x ≤ 20 := by
  constructor
  · rintro ⟨i, hi, rfl⟩
    exact ⟨nI_pos' (by omega), nI_le (b := 20) (by omega) (by decide)⟩
  · rintro ⟨h0, h8⟩
    obtain ⟨j, hj, rfl⟩ := nI_of (Int32.not_lt.mpr h0)
    refine ⟨j, ?_, rfl⟩
    have h : nI j ≤ nI 20 := h8
    rw [nI_leI hj (by decide)] at h
    omega
/-- the same instruction as X (op d a b l) and Y (op f s t) keep it -/
def fo_Ins (op d a b l f s t : Int32) : Prop :=
  (∃ i : Nat, i < 8 ∧ op = 0 ∧ d = nI i ∧ f = nI i ∧ s = a) ∨
  (∃ i j : Nat, i < 8 ∧ j < 8 ∧ op = 1 ∧ d = nI i ∧ f = nI i ∧ a = nI j ∧ s = nI j ∧ b = nI 0) ∨
  (∃ o i j m : Nat, 2 ≤ o ∧ o ≤ 7 ∧ i < 8 ∧ j < 8 ∧ m < 8 ∧ op = nI o ∧ d = nI i ∧ f = nI i ∧ a = nI j ∧ s = nI j ∧ b = nI m ∧ t = nI m) ∨
  (∃ m : Nat, m < 21 ∧ op = 8 ∧ l = nI m ∧ s = nI m) ∨
  (∃ i m : Nat, i < 8 ∧ m < 21 ∧ op = 9 ∧ a = nI i ∧ f = nI i ∧ l = nI m ∧ s = nI m) ∨
  (∃ i : Nat, i < 8 ∧ op = 10 ∧ a = nI i ∧ f = nI i) ∨
  op = 11
/-- the two programs hold the same instructions -/
def fo_Prog (op d a b l f s t : Nat → Int32) : Prop := ∀ j : Nat, j < 20 → fo_Ins (op j) (d j) (a j) (b j) (l j) (f j) (s j) (t j)
theorem fo_prog0 : fo_Prog (fun _ => 0) (fun _ => 0) (fun _ => 0) (fun _ => 0) (fun _ => 0) (fun _ => 0) (fun _ => 0) (fun _ => 0) :=
  fun _ _ => Or.inl ⟨0, by decide, rfl, nI_0.symm, nI_0.symm, rfl⟩
theorem fo_prog_put {op d a b l f s t : Nat → Int32} {c : Nat} {xo xd xa xb xl yf ys yt : Int32} (h : fo_Prog op d a b l f s t) (hi : fo_Ins xo xd xa xb xl yf ys yt) : fo_Prog (upd op c xo) (upd d c xd) (upd a c xa) (upd b c xb) (upd l c xl) (upd f c yf) (upd s c ys) (upd t c yt) := by
  intro j hj
  by_cases e : j = c
  · subst e
    simp only [pk_us]
    exact hi
  · simp only [pk_un e]
    exact h j hj
/-- the eight numbers after the first i have been copied -/
def fo_cp (a st : Nat → Int32) : Nat → (Nat → Int32)
  | 0 => a
  | i + 1 => upd (fo_cp a st i) i (st i)
