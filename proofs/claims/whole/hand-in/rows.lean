section
theorem pk_us {f : Nat → Int32} {k : Nat} {x : Int32} : upd f k x k = x := if_pos rfl
theorem pk_un {f : Nat → Int32} {k j : Nat} {x : Int32} (h : j ≠ k) : upd f k x j = f j := if_neg h
theorem pk_m1 (n : Nat) : nI (n + 1) + (-1) = nI n := by
  rw [← nI_1, Int32.add_assoc, show (1 : Int32) + (-1) = 0 from rfl, Int32.add_zero]
theorem pk_ix (x : Int32) {n : Nat} (hn : n < 2 ^ 31) : x < 0 ∨ nI n ≤ x ∨ ∃ j : Nat, j < n ∧ x = nI j := by
  by_cases h : x < 0
  · exact Or.inl h
  · obtain ⟨j, hj, rfl⟩ := nI_of h
    by_cases h2 : j < n
    · exact Or.inr (Or.inr ⟨j, h2, rfl⟩)
    · exact Or.inr (Or.inl (nI_le (by omega) hj))
theorem pk_le {x y : Int32} {A B : Prop} (a b : Nat) (f : a ≤ b → A) (g : b < a → B) (hx : x = nI a := by rfl) (hy : y = nI b := by rfl) (ha : a < 2 ^ 31 := by omega) (hb : b < 2 ^ 31 := by omega) : (x ≤ y → A) ∧ (¬ x ≤ y → B) := by
  subst hx hy
  rw [nI_leI ha hb]
  exact ⟨f, fun z => g (by omega)⟩
theorem pk_lt {x y : Int32} {A B : Prop} (a b : Nat) (f : a < b → A) (g : b ≤ a → B) (hx : x = nI a := by rfl) (hy : y = nI b := by rfl) (ha : a < 2 ^ 31 := by omega) (hb : b < 2 ^ 31 := by omega) : (x < y → A) ∧ (¬ x < y → B) := by
  subst hx hy
  rw [nI_ltI ha hb]
  exact ⟨f, fun z => g (by omega)⟩
theorem pk_eq {x y : Int32} {A B : Prop} (a b : Nat) (f : a = b → A) (g : a ≠ b → B) (hx : x = nI a := by rfl) (hy : y = nI b := by rfl) (ha : a < 2 ^ 31 := by omega) (hb : b < 2 ^ 31 := by omega) : (x = y → A) ∧ (¬ x = y → B) := by
  subst hx hy
  rw [nI_eq ha hb]
  exact ⟨f, g⟩
theorem pk_in {x : Int32} (n N : Nat) (h : n < N) (hx : x = nI n := by rfl) (hN : N < 2 ^ 31 := by omega) : vp_in x N := by
  subst hx
  exact vp_in_nI h hN
theorem pk_cl {x : Int32} (n : Nat) (hx : x = nI n := by rfl) (h : n < 2 ^ 31 := by omega) : x.toNatClampNeg = n := by
  subst hx
  exact nI_clamp h
/-- a name of one of the eight numbers -/
def fo_Num (x : Int32) : Prop := ∃ i : Nat, i < 8 ∧ x = nI i
/-- a place that a jump may name -/
def fo_Plc (x : Int32) : Prop := ∃ i : Nat, i < 21 ∧ x = nI i
theorem fo_num_iff (x : Int32) : fo_Num x ↔ 0 ≤ x ∧ x < 8 := by
  constructor
  · rintro ⟨i, hi, rfl⟩
    exact ⟨nI_pos' (by omega), nI_lt (b := 8) hi (by decide)⟩
  · rintro ⟨h0, h8⟩
    obtain ⟨j, hj, rfl⟩ := nI_of (Int32.not_lt.mpr h0)
    refine ⟨j, ?_, rfl⟩
    have h : nI j < nI 8 := h8
    rwa [nI_ltI hj (by decide)] at h
theorem fo_plc_iff (x : Int32) : fo_Plc x ↔ 0 ≤ x ∧ x ≤ 20 := by
  constructor
  · rintro ⟨i, hi, rfl⟩
    exact ⟨nI_pos' (by omega), nI_le (b := 20) (by omega) (by decide)⟩
  · rintro ⟨h0, h8⟩
    obtain ⟨j, hj, rfl⟩ := nI_of (Int32.not_lt.mpr h0)
    refine ⟨j, ?_, rfl⟩
    have h : nI j ≤ nI 20 := h8
    rw [nI_leI hj (by decide)] at h
    omega
/-- the same instruction as X (op d a b l) and Y (op f s t) keep it -/
def fo_Ins (op d a b l f s t : Int32) : Prop :=
  (∃ i : Nat, i < 8 ∧ op = 0 ∧ d = nI i ∧ f = nI i ∧ s = a) ∨
  (∃ i j : Nat, i < 8 ∧ j < 8 ∧ op = 1 ∧ d = nI i ∧ f = nI i ∧ a = nI j ∧ s = nI j ∧ b = nI 0) ∨
  (∃ o i j m : Nat, 2 ≤ o ∧ o ≤ 7 ∧ i < 8 ∧ j < 8 ∧ m < 8 ∧ op = nI o ∧ d = nI i ∧ f = nI i ∧ a = nI j ∧ s = nI j ∧ b = nI m ∧ t = nI m) ∨
  (∃ m : Nat, m < 21 ∧ op = 8 ∧ l = nI m ∧ s = nI m) ∨
  (∃ i m : Nat, i < 8 ∧ m < 21 ∧ op = 9 ∧ a = nI i ∧ f = nI i ∧ l = nI m ∧ s = nI m) ∨
  (∃ i : Nat, i < 8 ∧ op = 10 ∧ a = nI i ∧ f = nI i) ∨
  op = 11
/-- the two programs hold the same instructions -/
def fo_Prog (op d a b l f s t : Nat → Int32) : Prop := ∀ j : Nat, j < 20 → fo_Ins (op j) (d j) (a j) (b j) (l j) (f j) (s j) (t j)
theorem fo_prog0 : fo_Prog (fun _ => 0) (fun _ => 0) (fun _ => 0) (fun _ => 0) (fun _ => 0) (fun _ => 0) (fun _ => 0) (fun _ => 0) :=
  fun _ _ => Or.inl ⟨0, by decide, rfl, nI_0.symm, nI_0.symm, rfl⟩
theorem fo_prog_put {op d a b l f s t : Nat → Int32} {c : Nat} {xo xd xa xb xl yf ys yt : Int32} (h : fo_Prog op d a b l f s t) (hi : fo_Ins xo xd xa xb xl yf ys yt) : fo_Prog (upd op c xo) (upd d c xd) (upd a c xa) (upd b c xb) (upd l c xl) (upd f c yf) (upd s c ys) (upd t c yt) := by
  intro j hj
  by_cases e : j = c
  · subst e
    simp only [pk_us]
    exact hi
  · simp only [pk_un e]
    exact h j hj
/-- the eight numbers after the first i have been copied -/
def fo_cp (a st : Nat → Int32) : Nat → (Nat → Int32)
  | 0 => a
  | i + 1 => upd (fo_cp a st i) i (st i)
end
section
/-- the relation: one count, the same ops, start values, numbers and outputs, and the same instructions -/
def i_Rel (_ : Nat) (u : SX) (v : SY) : Prop :=
  ∃ (c : Nat) (oc bc pp rn he mn bk pl en : Int32) (op d a b l f s t st nm ot : Nat → Int32),
    u = (nI c, oc, bc, pp, rn, he, op, d, a, b, l, st, nm, ot) ∧ v = (nI c, mn, bk, pl, en, op, f, s, t, st, nm, ot) ∧ c ≤ 20 ∧ fo_Prog op d a b l f s t
theorem i_up {k : Nat} {u : SX} {v : SY} (h : i_Rel k u v) : i_Rel (k + 5) u v := h
theorem i_vc0 : wpX_init (fun u => wpY_init (fun v => i_Rel 0 u v)) :=
  ⟨0, 0, 0, 0, 0, 0, 0, 0, 0, 0, _, _, _, _, _, _, _, _, _, _, _, rfl, rfl, by decide, fo_prog0⟩
section
variable {c : Nat} {oc bc pp rn he mn bk pl en : Int32} {op d a b l f s t st nm ot : Nat → Int32}
theorem fo_rel {k : Nat} (hc : c ≤ 20) (hP : fo_Prog op d a b l f s t) : i_Rel k (nI c, oc, bc, pp, rn, he, op, d, a, b, l, st, nm, ot) (nI c, mn, bk, pl, en, op, f, s, t, st, nm, ot) :=
  ⟨c, oc, bc, pp, rn, he, mn, bk, pl, en, op, d, a, b, l, f, s, t, st, nm, ot, rfl, rfl, hc, hP⟩
theorem fo_xapp {post : Int32 → SX → Prop} {xo xd xa xb xl : Int32} (hc : c ≤ 20)
    (h1 : c < 20 → post (nI c) (nI (c + 1), oc, bc, pp, rn, he, upd op c xo, upd d c xd, upd a c xa, upd b c xb, upd l c xl, st, nm, ot))
    (h2 : c = 20 → post (-2) (nI c, oc, bc, pp, rn, he, op, d, a, b, l, st, nm, ot)) : wpX_append post (nI c, oc, bc, pp, rn, he, op, d, a, b, l, st, nm, ot) xo xd xa xb xl := by
  unfold wpX_append
  refine pk_lt c 20 (fun h => ?_) (fun h => h2 (by omega))
  have hi : vp_in (nI c) 20 := vp_in_nI h (by decide)
  have e : (nI c).toNatClampNeg = c := nI_clamp (by omega)
  simp only [e]
  refine ⟨hi, nm_e ⟨hi, nm_e ⟨hi, nm_e ⟨hi, nm_e ⟨hi, nm_e (nm_r (nI_1 c) ?_)⟩⟩⟩⟩⟩
  rw [nI_pred]
  exact h1 h
theorem fo_yapp {post : Int32 → SY → Prop} {xo yf ys yt : Int32} (hc : c ≤ 20)
    (h1 : c < 20 → post (nI c) (nI (c + 1), mn, bk, pl, en, upd op c xo, upd f c yf, upd s c ys, upd t c yt, st, nm, ot))
    (h2 : c = 20 → post (-2) (nI c, mn, bk, pl, en, op, f, s, t, st, nm, ot)) : wpY_append post (nI c, mn, bk, pl, en, op, f, s, t, st, nm, ot) xo yf ys yt := by
  unfold wpY_append
  refine pk_eq c 20 (fun h => h2 h) (fun hn => ?_)
  have h : c < 20 := by omega
  have hi : vp_in (nI c) 20 := vp_in_nI h (by decide)
  have e : (nI c).toNatClampNeg = c := nI_clamp (by omega)
  simp only [e]
  refine ⟨hi, nm_e ⟨hi, nm_e ⟨hi, nm_e ⟨hi, nm_e (nm_r (nI_1 c) ?_)⟩⟩⟩⟩
  rw [nI_pred]
  exact h1 h
theorem fo_build {k : Nat} {C : Prop} {xo xd xa xb xl yf ys yt : Int32} (hc : c ≤ 20) (hP : fo_Prog op d a b l f s t)
    (WX : (Int32 → SX → Prop) → Prop) (WY : (Int32 → SY → Prop) → Prop)
    (hi : C → fo_Ins xo xd xa xb xl yf ys yt)
    (hX : ∀ post : Int32 → SX → Prop, (C → c < 20 → post (nI c) (nI (c + 1), oc, bc, pp, rn, he, upd op c xo, upd d c xd, upd a c xa, upd b c xb, upd l c xl, st, nm, ot)) → (C → c = 20 → post (-2) (nI c, oc, bc, pp, rn, he, op, d, a, b, l, st, nm, ot)) → (¬ C → post (-1) (nI c, oc, bc, pp, rn, he, op, d, a, b, l, st, nm, ot)) → WX post)
    (hY : ∀ post : Int32 → SY → Prop, (C → c < 20 → post (nI c) (nI (c + 1), mn, bk, pl, en, upd op c xo, upd f c yf, upd s c ys, upd t c yt, st, nm, ot)) → (C → c = 20 → post (-2) (nI c, mn, bk, pl, en, op, f, s, t, st, nm, ot)) → (¬ C → post (-1) (nI c, mn, bk, pl, en, op, f, s, t, st, nm, ot)) → WY post) :
    WX (fun r u' => WY (fun r' v' => r' = r ∧ i_Rel k u' v')) := by
  refine hX _ (fun hC h => ?_) (fun hC h => ?_) (fun hC => ?_)
  · exact hY _ (fun _ _ => ⟨rfl, fo_rel (by omega) (fo_prog_put hP (hi hC))⟩) (fun _ h' => absurd h' (by omega)) (fun hN => absurd hC hN)
  · exact hY _ (fun _ h' => absurd h' (by omega)) (fun _ _ => ⟨rfl, fo_rel hc hP⟩) (fun hN => absurd hC hN)
  · exact hY _ (fun h' _ => absurd h' hC) (fun h' _ => absurd h' hC) (fun _ => ⟨rfl, fo_rel hc hP⟩)
theorem fo_xnum {post : Int32 → Prop} {x : Int32} (h1 : fo_Num x → post 1) (h0 : ¬ fo_Num x → post 0) : wpX_isNumber post x := by
  rw [fo_num_iff] at h1 h0
  exact ⟨fun h => h0 (fun z => Int32.not_lt.mpr z.1 h), fun h => ⟨fun g => h0 (fun z => Int32.not_lt.mpr g z.2), fun g => h1 ⟨Int32.not_lt.mp h, Int32.not_le.mp g⟩⟩⟩
theorem fo_ynum {post : Int32 → Prop} {x : Int32} (h1 : fo_Num x → post 1) (h0 : ¬ fo_Num x → post 0) : wpY_isNumber post (nI c, mn, bk, pl, en, op, f, s, t, st, nm, ot) x := by
  have e : 7 < x ↔ ¬ x < 8 := by
    rw [Int32.lt_iff_toInt_lt, Int32.lt_iff_toInt_lt, show (7 : Int32).toInt = 7 from by decide, show (8 : Int32).toInt = 8 from by decide]
    omega
  rw [fo_num_iff] at h1 h0
  exact ⟨fun h => h0 (fun z => Int32.not_lt.mpr z.1 h), fun h => ⟨fun g => h0 (fun z => e.mp g z.2), fun g => h1 ⟨Int32.not_lt.mp h, Classical.not_not.mp (fun z => g (e.mpr z))⟩⟩⟩
theorem fo_xplc {post : Int32 → Prop} {x : Int32} (h1 : fo_Plc x → post 1) (h0 : ¬ fo_Plc x → post 0) : wpX_isPlace post x := by
  rw [fo_plc_iff] at h1 h0
  exact ⟨fun h => h0 (fun z => Int32.not_lt.mpr z.1 h), fun h => ⟨fun g => h0 (fun z => Int32.not_lt.mpr z.2 g), fun g => h1 ⟨Int32.not_lt.mp h, Int32.not_lt.mp g⟩⟩⟩
theorem fo_yplc {x : Int32} {A B : Prop} (h1 : fo_Plc x → B) (h0 : ¬ fo_Plc x → A) : (x < 0 → A) ∧ (¬ x < 0 → ((20 < x → A) ∧ (¬ 20 < x → B))) := by
  rw [fo_plc_iff] at h1 h0
  exact ⟨fun h => h0 (fun z => Int32.not_lt.mpr z.1 h), fun h => ⟨fun g => h0 (fun z => Int32.not_lt.mpr z.2 g), fun g => h1 ⟨Int32.not_lt.mp h, Int32.not_lt.mp g⟩⟩⟩
end
theorem fo_10 : ¬ (1 : Int32) = 0 := by decide
end
section
section
variable {c : Nat} {oc bc pp rn he mn bk pl en : Int32} {op d a b l f s t st nm ot : Nat → Int32}
def fo_SC (x1 x2 x3 : Int32) : Prop := ((x1 = 0 ∧ ¬ x3 < (-50) ∧ ¬ 50 < x3) ∨ (x1 = 1 ∧ fo_Num x3)) ∧ fo_Num x2
def fo_AC (x1 x2 x3 x4 : Int32) : Prop := ¬ x1 < 2 ∧ ¬ 7 < x1 ∧ fo_Num x2 ∧ fo_Num x3 ∧ fo_Num x4
def fo_BC (x1 x2 : Int32) : Prop := fo_Num x1 ∧ fo_Plc x2
theorem fo_xs26 {post : Int32 → SX → Prop} {x1 x2 x3 z0 : Int32} {C : Prop} (hc : c ≤ 20) (hz : z0 = 0 → ¬ C) (hz1 : ¬ z0 = 0 → fo_Num x2 → C) (hN : C → fo_Num x2)
    (h1 : C → c < 20 → post (nI c) (nI (c + 1), oc, bc, pp, rn, he, upd op c x1, upd d c x2, upd a c x3, upd b c 0, upd l c 0, st, nm, ot)) (h2 : C → c = 20 → post (-2) (nI c, oc, bc, pp, rn, he, op, d, a, b, l, st, nm, ot)) (h0 : ¬ C → post (-1) (nI c, oc, bc, pp, rn, he, op, d, a, b, l, st, nm, ot)) : wX_simple_26 post x1 x2 x3 z0 (nI c) oc bc pp rn he op d a b l st nm ot := by
  unfold wX_simple_26
  refine fo_xnum (fun hn => br_f fo_10 (br_c (fun z => h0 (hz z)) (fun z => ?_))) (fun hn => br_t rfl (h0 (fun z => hn (hN z))))
  exact fo_xapp hc (h1 (hz1 z hn)) (h2 (hz1 z hn))
theorem fo_ys42 {post : Int32 → SY → Prop} {x1 x2 x3 z0 : Int32} {C : Prop} (hc : c ≤ 20) (hz : z0 = 0 → ¬ C) (hz1 : ¬ z0 = 0 → fo_Num x2 → C) (hN : C → fo_Num x2)
    (h1 : C → c < 20 → post (nI c) (nI (c + 1), mn, bk, pl, en, upd op c x1, upd f c x2, upd s c x3, upd t c 0, st, nm, ot)) (h2 : C → c = 20 → post (-2) (nI c, mn, bk, pl, en, op, f, s, t, st, nm, ot)) (h0 : ¬ C → post (-1) (nI c, mn, bk, pl, en, op, f, s, t, st, nm, ot)) : wY_simple_42 post x1 x2 x3 z0 (nI c) mn bk pl en op f s t st nm ot := by
  unfold wY_simple_42
  refine br_c (fun z => h0 (hz z)) (fun z => ?_)
  refine fo_ynum (fun hn => br_f fo_10 ?_) (fun hn => br_t rfl (h0 (fun z => hn (hN z))))
  exact fo_yapp hc (h1 (hz1 z hn)) (h2 (hz1 z hn))
theorem fo_xsimple {post : Int32 → SX → Prop} {x1 x2 x3 : Int32} (hc : c ≤ 20)
    (h1 : fo_SC x1 x2 x3 → c < 20 → post (nI c) (nI (c + 1), oc, bc, pp, rn, he, upd op c x1, upd d c x2, upd a c x3, upd b c 0, upd l c 0, st, nm, ot)) (h2 : fo_SC x1 x2 x3 → c = 20 → post (-2) (nI c, oc, bc, pp, rn, he, op, d, a, b, l, st, nm, ot)) (h0 : ¬ fo_SC x1 x2 x3 → post (-1) (nI c, oc, bc, pp, rn, he, op, d, a, b, l, st, nm, ot)) : wpX_simple post (nI c, oc, bc, pp, rn, he, op, d, a, b, l, st, nm, ot) x1 x2 x3 := by
  have hN : fo_SC x1 x2 x3 → fo_Num x2 := fun z => z.2
  have key : x1 = 0 ∨ x1 = 1 → wX_simple_11 post x1 x2 x3 (nI c) oc bc pp rn he op d a b l st nm ot := by
    intro hx
    unfold wX_simple_11
    refine br_c (fun z => ?_) (fun z => ?_)
    · refine ⟨fun g => ?_, fun g => ⟨fun g2 => ?_, fun g2 => ?_⟩⟩
      · exact fo_xs26 hc (fun _ q => by rcases q.1 with q | q; exact q.2.1 g; exact absurd (z.symm.trans q.1) (by decide)) (fun q => absurd rfl q) hN h1 h2 h0
      · exact fo_xs26 hc (fun _ q => by rcases q.1 with q | q; exact q.2.2 g2; exact absurd (z.symm.trans q.1) (by decide)) (fun q => absurd rfl q) hN h1 h2 h0
      · exact fo_xs26 hc (fun q => absurd q fo_10) (fun _ q => ⟨Or.inl ⟨z, g, g2⟩, q⟩) hN h1 h2 h0
    · have e1 : x1 = 1 := hx.resolve_left z
      refine fo_xnum (fun g => ?_) (fun g => ?_)
      · exact fo_xs26 hc (fun q => absurd q fo_10) (fun _ q => ⟨Or.inr ⟨e1, g⟩, q⟩) hN h1 h2 h0
      · exact fo_xs26 hc (fun _ q => by rcases q.1 with q | q; exact z q.1; exact g q.2) (fun q => absurd rfl q) hN h1 h2 h0
  unfold wpX_simple
  exact br_c (fun z => key (Or.inl z)) (fun z => br_c (fun z1 => key (Or.inr z1)) (fun z1 => h0 (fun q => q.1.elim (fun q => z q.1) (fun q => z1 q.1))))
theorem fo_ysimple {post : Int32 → SY → Prop} {x1 x2 x3 : Int32} (hc : c ≤ 20)
    (h1 : fo_SC x1 x2 x3 → c < 20 → post (nI c) (nI (c + 1), mn, bk, pl, en, upd op c x1, upd f c x2, upd s c x3, upd t c 0, st, nm, ot)) (h2 : fo_SC x1 x2 x3 → c = 20 → post (-2) (nI c, mn, bk, pl, en, op, f, s, t, st, nm, ot)) (h0 : ¬ fo_SC x1 x2 x3 → post (-1) (nI c, mn, bk, pl, en, op, f, s, t, st, nm, ot)) : wpY_simple post (nI c, mn, bk, pl, en, op, f, s, t, st, nm, ot) x1 x2 x3 := by
  have hN : fo_SC x1 x2 x3 → fo_Num x2 := fun z => z.2
  have k0 : ¬ fo_SC x1 x2 x3 → wY_simple_42 post x1 x2 x3 0 (nI c) mn bk pl en op f s t st nm ot := fun g => fo_ys42 hc (fun _ => g) (fun q => absurd rfl q) hN h1 h2 h0
  have k1 : (fo_Num x2 → fo_SC x1 x2 x3) → wY_simple_42 post x1 x2 x3 1 (nI c) mn bk pl en op f s t st nm ot := fun g => fo_ys42 hc (fun q => absurd q fo_10) (fun _ q => g q) hN h1 h2 h0
  unfold wpY_simple
  refine br_c (fun z => br_c (fun g => k0 ?_) (fun g => br_c (fun g2 => k0 ?_) (fun g2 => k1 (fun q => ⟨Or.inl ⟨z, g, g2⟩, q⟩)))) (fun z => br_c (fun z1 => fo_ynum (fun g => br_f fo_10 (k1 (fun q => ⟨Or.inr ⟨z1, g⟩, q⟩))) (fun g => br_t rfl (k0 ?_))) (fun z1 => k0 ?_))
  · exact fun q => by rcases q.1 with q | q; exact q.2.1 g; exact absurd (z.symm.trans q.1) (by decide)
  · exact fun q => by rcases q.1 with q | q; exact q.2.2 g2; exact absurd (z.symm.trans q.1) (by decide)
  · exact fun q => q.1.elim (fun q => z q.1) (fun q => g q.2)
  · exact fun q => q.1.elim (fun q => z q.1) (fun q => z1 q.1)
theorem fo_xapply {post : Int32 → SX → Prop} {x1 x2 x3 x4 : Int32} (hc : c ≤ 20)
    (h1 : fo_AC x1 x2 x3 x4 → c < 20 → post (nI c) (nI (c + 1), oc, bc, pp, rn, he, upd op c x1, upd d c x2, upd a c x3, upd b c x4, upd l c 0, st, nm, ot)) (h2 : fo_AC x1 x2 x3 x4 → c = 20 → post (-2) (nI c, oc, bc, pp, rn, he, op, d, a, b, l, st, nm, ot)) (h0 : ¬ fo_AC x1 x2 x3 x4 → post (-1) (nI c, oc, bc, pp, rn, he, op, d, a, b, l, st, nm, ot)) : wpX_apply post (nI c, oc, bc, pp, rn, he, op, d, a, b, l, st, nm, ot) x1 x2 x3 x4 := by
  unfold wpX_apply
  refine br_c (fun z => h0 (fun q => q.1 z)) (fun z => br_c (fun z7 => ?_) (fun z7 => h0 (fun q => z7 (Int32.not_lt.mp q.2.1))))
  refine fo_xnum (fun n2 => br_f fo_10 ?_) (fun n2 => br_t rfl (h0 (fun q => n2 q.2.2.1)))
  refine fo_xnum (fun n3 => br_f fo_10 ?_) (fun n3 => br_t rfl (h0 (fun q => n3 q.2.2.2.1)))
  refine fo_xnum (fun n4 => br_f fo_10 ?_) (fun n4 => br_t rfl (h0 (fun q => n4 q.2.2.2.2)))
  have hC : fo_AC x1 x2 x3 x4 := ⟨z, Int32.not_lt.mpr z7, n2, n3, n4⟩
  exact fo_xapp hc (h1 hC) (h2 hC)
theorem fo_yapply {post : Int32 → SY → Prop} {x1 x2 x3 x4 : Int32} (hc : c ≤ 20)
    (h1 : fo_AC x1 x2 x3 x4 → c < 20 → post (nI c) (nI (c + 1), mn, bk, pl, en, upd op c x1, upd f c x2, upd s c x3, upd t c x4, st, nm, ot)) (h2 : fo_AC x1 x2 x3 x4 → c = 20 → post (-2) (nI c, mn, bk, pl, en, op, f, s, t, st, nm, ot)) (h0 : ¬ fo_AC x1 x2 x3 x4 → post (-1) (nI c, mn, bk, pl, en, op, f, s, t, st, nm, ot)) : wpY_apply post (nI c, mn, bk, pl, en, op, f, s, t, st, nm, ot) x1 x2 x3 x4 := by
  have k0 : ¬ fo_AC x1 x2 x3 x4 → wY_apply_40 post x1 x2 x3 x4 (nI c) mn bk pl en op f s t st nm ot := fun g => br_t rfl (h0 g)
  unfold wpY_apply
  refine br_c (fun z => k0 (fun q => q.1 z)) (fun z => br_c (fun z7 => k0 (fun q => q.2.1 z7)) (fun z7 => ?_))
  refine fo_ynum (fun n2 => br_f fo_10 ?_) (fun n2 => br_t rfl (k0 (fun q => n2 q.2.2.1)))
  refine fo_ynum (fun n3 => br_f fo_10 ?_) (fun n3 => br_t rfl (k0 (fun q => n3 q.2.2.2.1)))
  refine fo_ynum (fun n4 => br_f fo_10 ?_) (fun n4 => br_t rfl (k0 (fun q => n4 q.2.2.2.2)))
  have hC : fo_AC x1 x2 x3 x4 := ⟨z, z7, n2, n3, n4⟩
  exact br_f fo_10 (fo_yapp hc (h1 hC) (h2 hC))
theorem fo_xjump {post : Int32 → SX → Prop} {x1 : Int32} (hc : c ≤ 20)
    (h1 : fo_Plc x1 → c < 20 → post (nI c) (nI (c + 1), oc, bc, pp, rn, he, upd op c 8, upd d c 0, upd a c 0, upd b c 0, upd l c x1, st, nm, ot)) (h2 : fo_Plc x1 → c = 20 → post (-2) (nI c, oc, bc, pp, rn, he, op, d, a, b, l, st, nm, ot)) (h0 : ¬ fo_Plc x1 → post (-1) (nI c, oc, bc, pp, rn, he, op, d, a, b, l, st, nm, ot)) : wpX_jump post (nI c, oc, bc, pp, rn, he, op, d, a, b, l, st, nm, ot) x1 := by
  unfold wpX_jump
  exact fo_xplc (fun n => br_f fo_10 (fo_xapp hc (h1 n) (h2 n))) (fun n => br_t rfl (h0 n))
theorem fo_yjump {post : Int32 → SY → Prop} {x1 : Int32} (hc : c ≤ 20)
    (h1 : fo_Plc x1 → c < 20 → post (nI c) (nI (c + 1), mn, bk, pl, en, upd op c 8, upd f c 0, upd s c x1, upd t c 0, st, nm, ot)) (h2 : fo_Plc x1 → c = 20 → post (-2) (nI c, mn, bk, pl, en, op, f, s, t, st, nm, ot)) (h0 : ¬ fo_Plc x1 → post (-1) (nI c, mn, bk, pl, en, op, f, s, t, st, nm, ot)) : wpY_jump post (nI c, mn, bk, pl, en, op, f, s, t, st, nm, ot) x1 := by
  unfold wpY_jump
  exact fo_yplc (fun n => fo_yapp hc (h1 n) (h2 n)) (fun n => h0 n)
theorem fo_xbranch {post : Int32 → SX → Prop} {x1 x2 : Int32} (hc : c ≤ 20)
    (h1 : fo_BC x1 x2 → c < 20 → post (nI c) (nI (c + 1), oc, bc, pp, rn, he, upd op c 9, upd d c 0, upd a c x1, upd b c 0, upd l c x2, st, nm, ot)) (h2 : fo_BC x1 x2 → c = 20 → post (-2) (nI c, oc, bc, pp, rn, he, op, d, a, b, l, st, nm, ot)) (h0 : ¬ fo_BC x1 x2 → post (-1) (nI c, oc, bc, pp, rn, he, op, d, a, b, l, st, nm, ot)) : wpX_branch post (nI c, oc, bc, pp, rn, he, op, d, a, b, l, st, nm, ot) x1 x2 := by
  unfold wpX_branch
  refine fo_xnum (fun n => br_f fo_10 ?_) (fun n => br_t rfl (h0 (fun q => n q.1)))
  exact fo_xplc (fun m => br_f fo_10 (fo_xapp hc (h1 ⟨n, m⟩) (h2 ⟨n, m⟩))) (fun m => br_t rfl (h0 (fun q => m q.2)))
theorem fo_ybranch {post : Int32 → SY → Prop} {x1 x2 : Int32} (hc : c ≤ 20)
    (h1 : fo_BC x1 x2 → c < 20 → post (nI c) (nI (c + 1), mn, bk, pl, en, upd op c 9, upd f c x1, upd s c x2, upd t c 0, st, nm, ot)) (h2 : fo_BC x1 x2 → c = 20 → post (-2) (nI c, mn, bk, pl, en, op, f, s, t, st, nm, ot)) (h0 : ¬ fo_BC x1 x2 → post (-1) (nI c, mn, bk, pl, en, op, f, s, t, st, nm, ot)) : wpY_branch post (nI c, mn, bk, pl, en, op, f, s, t, st, nm, ot) x1 x2 := by
  unfold wpY_branch
  refine fo_ynum (fun n => br_f fo_10 ?_) (fun n => br_t rfl (h0 (fun q => n q.1)))
  exact fo_yplc (fun m => fo_yapp hc (h1 ⟨n, m⟩) (h2 ⟨n, m⟩)) (fun m => h0 (fun q => m q.2))
theorem fo_xout {post : Int32 → SX → Prop} {x1 : Int32} (hc : c ≤ 20)
    (h1 : fo_Num x1 → c < 20 → post (nI c) (nI (c + 1), oc, bc, pp, rn, he, upd op c 10, upd d c 0, upd a c x1, upd b c 0, upd l c 0, st, nm, ot)) (h2 : fo_Num x1 → c = 20 → post (-2) (nI c, oc, bc, pp, rn, he, op, d, a, b, l, st, nm, ot)) (h0 : ¬ fo_Num x1 → post (-1) (nI c, oc, bc, pp, rn, he, op, d, a, b, l, st, nm, ot)) : wpX_out post (nI c, oc, bc, pp, rn, he, op, d, a, b, l, st, nm, ot) x1 := by
  unfold wpX_out
  exact fo_xnum (fun n => br_f fo_10 (fo_xapp hc (h1 n) (h2 n))) (fun n => br_t rfl (h0 n))
theorem fo_yout {post : Int32 → SY → Prop} {x1 : Int32} (hc : c ≤ 20)
    (h1 : fo_Num x1 → c < 20 → post (nI c) (nI (c + 1), mn, bk, pl, en, upd op c 10, upd f c x1, upd s c 0, upd t c 0, st, nm, ot)) (h2 : fo_Num x1 → c = 20 → post (-2) (nI c, mn, bk, pl, en, op, f, s, t, st, nm, ot)) (h0 : ¬ fo_Num x1 → post (-1) (nI c, mn, bk, pl, en, op, f, s, t, st, nm, ot)) : wpY_out post (nI c, mn, bk, pl, en, op, f, s, t, st, nm, ot) x1 := by
  unfold wpY_out
  exact fo_ynum (fun n => br_f fo_10 (fo_yapp hc (h1 n) (h2 n))) (fun n => br_t rfl (h0 n))
theorem fo_xhalt {post : Int32 → SX → Prop} (hc : c ≤ 20)
    (h1 : True → c < 20 → post (nI c) (nI (c + 1), oc, bc, pp, rn, he, upd op c 11, upd d c 0, upd a c 0, upd b c 0, upd l c 0, st, nm, ot)) (h2 : True → c = 20 → post (-2) (nI c, oc, bc, pp, rn, he, op, d, a, b, l, st, nm, ot)) (h0 : ¬ True → post (-1) (nI c, oc, bc, pp, rn, he, op, d, a, b, l, st, nm, ot)) : wpX_halt post (nI c, oc, bc, pp, rn, he, op, d, a, b, l, st, nm, ot) := by
  unfold wpX_halt
  exact fo_xapp hc (h1 trivial) (h2 trivial)
theorem fo_yhalt {post : Int32 → SY → Prop} (hc : c ≤ 20)
    (h1 : True → c < 20 → post (nI c) (nI (c + 1), mn, bk, pl, en, upd op c 11, upd f c 0, upd s c 0, upd t c 0, st, nm, ot)) (h2 : True → c = 20 → post (-2) (nI c, mn, bk, pl, en, op, f, s, t, st, nm, ot)) (h0 : ¬ True → post (-1) (nI c, mn, bk, pl, en, op, f, s, t, st, nm, ot)) : wpY_halt post (nI c, mn, bk, pl, en, op, f, s, t, st, nm, ot) := by
  unfold wpY_halt
  exact fo_yapp hc (h1 trivial) (h2 trivial)
end
theorem fo_opr {x : Int32} (h2 : ¬ x < 2) (h7 : ¬ 7 < x) : ∃ o : Nat, 2 ≤ o ∧ o ≤ 7 ∧ x = nI o := by
  have h0 : ¬ x < 0 := fun z => h2 (Int32.lt_of_lt_of_le z (by decide))
  obtain ⟨j, hj, rfl⟩ := nI_of h0
  refine ⟨j, ?_, ?_, rfl⟩
  · have h : ¬ nI j < nI 2 := h2
    rw [nI_ltI hj (by decide)] at h
    omega
  · have h : ¬ nI 7 < nI j := h7
    rw [nI_ltI (by decide) hj] at h
    omega
theorem fo_is {x1 x2 x3 : Int32} (h : fo_SC x1 x2 x3) : fo_Ins x1 x2 x3 0 0 x2 x3 0 := by
  obtain ⟨h, i, hi, rfl⟩ := h
  rcases h with ⟨rfl, _, _⟩ | ⟨rfl, j, hj, rfl⟩
  · exact Or.inl ⟨i, hi, rfl, rfl, rfl, rfl⟩
  · exact Or.inr (Or.inl ⟨i, j, hi, hj, rfl, rfl, rfl, rfl, rfl, nI_0.symm⟩)
theorem fo_ia {x1 x2 x3 x4 : Int32} (h : fo_AC x1 x2 x3 x4) : fo_Ins x1 x2 x3 x4 0 x2 x3 x4 := by
  obtain ⟨h2, h7, ⟨i, hi, rfl⟩, ⟨j, hj, rfl⟩, ⟨m, hm, rfl⟩⟩ := h
  obtain ⟨o, ho2, ho7, rfl⟩ := fo_opr h2 h7
  exact Or.inr (Or.inr (Or.inl ⟨o, i, j, m, ho2, ho7, hi, hj, hm, rfl, rfl, rfl, rfl, rfl, rfl, rfl⟩))
theorem fo_ij {x1 : Int32} (h : fo_Plc x1) : fo_Ins 8 0 0 0 x1 0 x1 0 := by
  obtain ⟨m, hm, rfl⟩ := h
  exact Or.inr (Or.inr (Or.inr (Or.inl ⟨m, hm, rfl, rfl, rfl⟩)))
theorem fo_ib {x1 x2 : Int32} (h : fo_BC x1 x2) : fo_Ins 9 0 x1 0 x2 x1 x2 0 := by
  obtain ⟨⟨i, hi, rfl⟩, m, hm, rfl⟩ := h
  exact Or.inr (Or.inr (Or.inr (Or.inr (Or.inl ⟨i, m, hi, hm, rfl, rfl, rfl, rfl, rfl⟩))))
theorem fo_io {x1 : Int32} (h : fo_Num x1) : fo_Ins 10 0 x1 0 0 x1 0 0 := by
  obtain ⟨i, hi, rfl⟩ := h
  exact Or.inr (Or.inr (Or.inr (Or.inr (Or.inr (Or.inl ⟨i, hi, rfl, rfl, rfl⟩)))))
theorem fo_ih : fo_Ins 11 0 0 0 0 0 0 0 := Or.inr (Or.inr (Or.inr (Or.inr (Or.inr (Or.inr rfl)))))
theorem i_vc_simple {k : Nat} {u : SX} {v : SY} (I : i_Rel k u v) (hk : k + 5 ≤ 2560) (v1 : Int32) (v2 : Int32) (v3 : Int32) : wpX_simple (fun r u' => wpY_simple (fun r' v' => r' = r ∧ i_Rel (k + 5) u' v') v v1 v2 v3) u v1 v2 v3 := by
  obtain ⟨c, oc, bc, pp, rn, he, mn, bk, pl, en, op, d, a, b, l, f, s, t, st, nm, ot, rfl, rfl, hc, hP⟩ := I
  exact fo_build (C := fo_SC v1 v2 v3) hc hP (fun post => wpX_simple post (nI c, oc, bc, pp, rn, he, op, d, a, b, l, st, nm, ot) v1 v2 v3) (fun post => wpY_simple post (nI c, mn, bk, pl, en, op, f, s, t, st, nm, ot) v1 v2 v3) fo_is (fun _ h1 h2 h0 => fo_xsimple hc h1 h2 h0) (fun _ h1 h2 h0 => fo_ysimple hc h1 h2 h0)
theorem i_vc_apply {k : Nat} {u : SX} {v : SY} (I : i_Rel k u v) (hk : k + 5 ≤ 2560) (v1 : Int32) (v2 : Int32) (v3 : Int32) (v4 : Int32) : wpX_apply (fun r u' => wpY_apply (fun r' v' => r' = r ∧ i_Rel (k + 5) u' v') v v1 v2 v3 v4) u v1 v2 v3 v4 := by
  obtain ⟨c, oc, bc, pp, rn, he, mn, bk, pl, en, op, d, a, b, l, f, s, t, st, nm, ot, rfl, rfl, hc, hP⟩ := I
  exact fo_build (C := fo_AC v1 v2 v3 v4) hc hP (fun post => wpX_apply post (nI c, oc, bc, pp, rn, he, op, d, a, b, l, st, nm, ot) v1 v2 v3 v4) (fun post => wpY_apply post (nI c, mn, bk, pl, en, op, f, s, t, st, nm, ot) v1 v2 v3 v4) fo_ia (fun _ h1 h2 h0 => fo_xapply hc h1 h2 h0) (fun _ h1 h2 h0 => fo_yapply hc h1 h2 h0)
theorem i_vc_jump {k : Nat} {u : SX} {v : SY} (I : i_Rel k u v) (hk : k + 5 ≤ 2560) (v1 : Int32) : wpX_jump (fun r u' => wpY_jump (fun r' v' => r' = r ∧ i_Rel (k + 5) u' v') v v1) u v1 := by
  obtain ⟨c, oc, bc, pp, rn, he, mn, bk, pl, en, op, d, a, b, l, f, s, t, st, nm, ot, rfl, rfl, hc, hP⟩ := I
  exact fo_build (C := fo_Plc v1) hc hP (fun post => wpX_jump post (nI c, oc, bc, pp, rn, he, op, d, a, b, l, st, nm, ot) v1) (fun post => wpY_jump post (nI c, mn, bk, pl, en, op, f, s, t, st, nm, ot) v1) fo_ij (fun _ h1 h2 h0 => fo_xjump hc h1 h2 h0) (fun _ h1 h2 h0 => fo_yjump hc h1 h2 h0)
theorem i_vc_branch {k : Nat} {u : SX} {v : SY} (I : i_Rel k u v) (hk : k + 5 ≤ 2560) (v1 : Int32) (v2 : Int32) : wpX_branch (fun r u' => wpY_branch (fun r' v' => r' = r ∧ i_Rel (k + 5) u' v') v v1 v2) u v1 v2 := by
  obtain ⟨c, oc, bc, pp, rn, he, mn, bk, pl, en, op, d, a, b, l, f, s, t, st, nm, ot, rfl, rfl, hc, hP⟩ := I
  exact fo_build (C := fo_BC v1 v2) hc hP (fun post => wpX_branch post (nI c, oc, bc, pp, rn, he, op, d, a, b, l, st, nm, ot) v1 v2) (fun post => wpY_branch post (nI c, mn, bk, pl, en, op, f, s, t, st, nm, ot) v1 v2) fo_ib (fun _ h1 h2 h0 => fo_xbranch hc h1 h2 h0) (fun _ h1 h2 h0 => fo_ybranch hc h1 h2 h0)
theorem i_vc_out {k : Nat} {u : SX} {v : SY} (I : i_Rel k u v) (hk : k + 5 ≤ 2560) (v1 : Int32) : wpX_out (fun r u' => wpY_out (fun r' v' => r' = r ∧ i_Rel (k + 5) u' v') v v1) u v1 := by
  obtain ⟨c, oc, bc, pp, rn, he, mn, bk, pl, en, op, d, a, b, l, f, s, t, st, nm, ot, rfl, rfl, hc, hP⟩ := I
  exact fo_build (C := fo_Num v1) hc hP (fun post => wpX_out post (nI c, oc, bc, pp, rn, he, op, d, a, b, l, st, nm, ot) v1) (fun post => wpY_out post (nI c, mn, bk, pl, en, op, f, s, t, st, nm, ot) v1) fo_io (fun _ h1 h2 h0 => fo_xout hc h1 h2 h0) (fun _ h1 h2 h0 => fo_yout hc h1 h2 h0)
theorem i_vc_halt {k : Nat} {u : SX} {v : SY} (I : i_Rel k u v) (hk : k + 5 ≤ 2560) : wpX_halt (fun r u' => wpY_halt (fun r' v' => r' = r ∧ i_Rel (k + 5) u' v') v) u := by
  obtain ⟨c, oc, bc, pp, rn, he, mn, bk, pl, en, op, d, a, b, l, f, s, t, st, nm, ot, rfl, rfl, hc, hP⟩ := I
  exact fo_build (C := True) hc hP (fun post => wpX_halt post (nI c, oc, bc, pp, rn, he, op, d, a, b, l, st, nm, ot)) (fun post => wpY_halt post (nI c, mn, bk, pl, en, op, f, s, t, st, nm, ot)) (fun _ => fo_ih) (fun _ h1 h2 h0 => fo_xhalt hc h1 h2 h0) (fun _ h1 h2 h0 => fo_yhalt hc h1 h2 h0)
theorem i_vc_drop {k : Nat} {u : SX} {v : SY} (I : i_Rel k u v) (hk : k + 5 ≤ 2560) : wpX_drop (fun r u' => wpY_drop (fun r' v' => r' = r ∧ i_Rel (k + 5) u' v') v) u := by
  obtain ⟨c, oc, bc, pp, rn, he, mn, bk, pl, en, op, d, a, b, l, f, s, t, st, nm, ot, rfl, rfl, hc, hP⟩ := I
  unfold wpX_drop wpY_drop
  rcases c with _ | c
  · exact br_t nI_0 (br_t nI_0 ⟨rfl, fo_rel hc hP⟩)
  · have hn : ¬ nI (c + 1) = 0 := nI_ne0 (by omega) (by omega)
    have hi : vp_in (nI c) 20 := vp_in_nI (by omega) (by decide)
    exact br_f hn (nm_r (nI_pred c) ⟨hi, br_f hn (nm_r (nI_pred c) ⟨hi, rfl, fo_rel (by omega) hP⟩)⟩)
theorem i_vc_clear {k : Nat} {u : SX} {v : SY} (I : i_Rel k u v) (hk : k + 5 ≤ 2560) : wpX_clear (fun u' => wpY_clear (fun v' => i_Rel (k + 5) u' v') v) u := by
  obtain ⟨c, oc, bc, pp, rn, he, mn, bk, pl, en, op, d, a, b, l, f, s, t, st, nm, ot, rfl, rfl, hc, hP⟩ := I
  exact fo_rel (k := k + 5) (c := 0) (by omega) hP
theorem i_vc_size {k : Nat} {u : SX} {v : SY} (I : i_Rel k u v) (hk : k + 5 ≤ 2560) : wpX_size (fun r => wpY_size (fun r' => r' = r ∧ i_Rel (k + 5) u v) v) u := by
  obtain ⟨c, oc, bc, pp, rn, he, mn, bk, pl, en, op, d, a, b, l, f, s, t, st, nm, ot, rfl, rfl, hc, hP⟩ := I
  exact ⟨rfl, fo_rel hc hP⟩
theorem i_vc_start {k : Nat} {u : SX} {v : SY} (I : i_Rel k u v) (hk : k + 5 ≤ 2560) (v1 : Int32) (v2 : Int32) : wpX_start (fun r u' => wpY_start (fun r' v' => r' = r ∧ i_Rel (k + 5) u' v') v v1 v2) u v1 v2 := by
  obtain ⟨c, oc, bc, pp, rn, he, mn, bk, pl, en, op, d, a, b, l, f, s, t, st, nm, ot, rfl, rfl, hc, hP⟩ := I
  unfold wpX_start wpY_start
  refine fo_xnum (fun n => br_f fo_10 ?_) (fun n => br_t rfl ?_)
  · have hi : vp_in v1 8 := by
      obtain ⟨i, hi, rfl⟩ := n
      exact vp_in_nI hi (by decide)
    refine ⟨hi, nm_e ?_⟩
    exact fo_ynum (fun _ => br_f fo_10 ⟨hi, nm_e ⟨rfl, fo_rel hc hP⟩⟩) (fun n' => absurd n n')
  · exact fo_ynum (fun n' => absurd n' n) (fun _ => br_t rfl ⟨rfl, fo_rel hc hP⟩)
end
section
section
variable {c oc bc p : Nat} {rn he en : Int32} {op d a b l f s t st nm ot : Nat → Int32}
theorem fo_xgo {post : SX → Prop} {m : Nat} (hm : m < 21) (hp : p < 21) (hb : bc ≤ 40)
    (h1 : p < m → post (nI c, nI oc, nI bc, nI m, rn, he, op, d, a, b, l, st, nm, ot))
    (h2 : m ≤ p → bc < 40 → post (nI c, nI oc, nI (bc + 1), nI m, rn, he, op, d, a, b, l, st, nm, ot))
    (h3 : m ≤ p → bc = 40 → post (nI c, nI oc, nI bc, nI p, 0, 2, op, d, a, b, l, st, nm, ot)) : wpX_goOnAt post (nI c, nI oc, nI bc, nI p, rn, he, op, d, a, b, l, st, nm, ot) (nI m) := by
  unfold wpX_goOnAt
  refine pk_le m p (fun h => ?_) (fun h => h1 h)
  exact pk_lt bc 40 (fun g => nm_r (nI_1 bc) (h2 h g)) (fun g => h3 h (by omega))
theorem fo_ygo {post : SY → Prop} {m : Nat} (hm : m < 21) (hp : p < 21) (hb : bc ≤ 40)
    (h1 : p < m → post (nI c, nI oc, nI bc, nI m, en, op, f, s, t, st, nm, ot))
    (h2 : m ≤ p → bc < 40 → post (nI c, nI oc, nI (bc + 1), nI m, en, op, f, s, t, st, nm, ot))
    (h3 : m ≤ p → bc = 40 → post (nI c, nI oc, nI bc, nI p, 2, op, f, s, t, st, nm, ot)) : wpY_goTo post (nI c, nI oc, nI bc, nI p, en, op, f, s, t, st, nm, ot) (nI m) := by
  have key : (p < m ∨ bc < 40) → wY_goTo_25 post (nI m) (nI c) (nI oc) (nI bc) (nI p) en op f s t st nm ot := fun q =>
    pk_lt p m (fun h => h1 h) (fun h => nm_r (nI_1 bc) (h2 h (by omega)))
  unfold wpY_goTo
  exact pk_lt p m (fun h => key (Or.inl h)) (fun h => pk_eq bc 40 (fun g => h3 h g) (fun g => key (Or.inr (by omega))))
theorem fo_xput {post : SX → Prop} {x : Int32} (ho : oc ≤ 24)
    (h1 : oc < 24 → post (nI c, nI (oc + 1), nI bc, nI (p + 1), rn, he, op, d, a, b, l, st, nm, upd ot oc x))
    (h2 : oc = 24 → post (nI c, nI oc, nI bc, nI p, 0, 1, op, d, a, b, l, st, nm, ot)) : wpX_putOut post (nI c, nI oc, nI bc, nI p, rn, he, op, d, a, b, l, st, nm, ot) x := by
  unfold wpX_putOut
  have e : (nI oc).toNatClampNeg = oc := nI_clamp (by omega)
  simp only [e]
  exact pk_lt oc 24 (fun g => ⟨vp_in_nI g (by decide), nm_e (nm_r (nI_1 oc) (nm_r (nI_1 p) (h1 g)))⟩) (fun g => h2 (by omega))
theorem fo_yput {post : SY → Prop} {x : Int32} (ho : oc ≤ 24)
    (h1 : oc < 24 → post (nI c, nI (oc + 1), nI bc, nI (p + 1), en, op, f, s, t, st, nm, upd ot oc x))
    (h2 : oc = 24 → post (nI c, nI oc, nI bc, nI p, 1, op, f, s, t, st, nm, ot)) : wpY_putOut post (nI c, nI oc, nI bc, nI p, en, op, f, s, t, st, nm, ot) x := by
  unfold wpY_putOut
  have e : (nI oc).toNatClampNeg = oc := nI_clamp (by omega)
  simp only [e]
  exact pk_eq oc 24 (fun g => h2 g) (fun g => ⟨vp_in_nI (by omega) (by decide), nm_e (nm_r (nI_1 oc) (nm_r (nI_1 p) (h1 (by omega))))⟩)
/-- what the six operations of apply give -/
def fo_res (o : Nat) (x y : Int32) : Int32 :=
  if o = 2 then x + y else if o = 3 then x - y else if o = 4 then x * y else if o = 5 then x &&& y else if o = 6 then x ^^^ y else if y ≤ x then 0 else 1
theorem fo_yres {post : Int32 → Prop} {v : SY} {o : Nat} {x y : Int32} (h2 : 2 ≤ o) (h7 : o ≤ 7) (h : post (fo_res o x y)) : wpY_result post v (nI o) x y := by
  obtain ⟨w1, w2, w3, w4, w5, w6, w7, w8, w9, w10, w11, w12⟩ := v
  unfold wpY_result
  have e : o = 2 ∨ o = 3 ∨ o = 4 ∨ o = 5 ∨ o = 6 ∨ o = 7 := by omega
  rcases e with rfl | rfl | rfl | rfl | rfl | rfl
  · exact br_t (by decide) h
  · exact br_f (by decide) (br_t (by decide) h)
  · exact br_f (by decide) (br_f (by decide) (br_t (by decide) h))
  · exact br_f (by decide) (br_f (by decide) (br_f (by decide) (br_t (by decide) h)))
  · exact br_f (by decide) (br_f (by decide) (br_f (by decide) (br_f (by decide) (br_t (by decide) h))))
  · refine br_f (by decide) (br_f (by decide) (br_f (by decide) (br_f (by decide) (br_f (by decide) ?_))))
    by_cases g : y ≤ x
    · refine br_t g ?_
      rw [show fo_res 7 x y = 0 from if_pos g] at h
      exact h
    · refine br_f g ?_
      rw [show fo_res 7 x y = 1 from if_neg g] at h
      exact h
theorem fo_xcomp0 {post : Int32 → Prop} {i1 i2 i3 i4 i5 : Int32} (hp : p < 20) (ho : op p = 0) (h : post (a p)) : wpX_computed post (i5, i1, i2, nI p, i3, i4, op, d, a, b, l, st, nm, ot) := by
  unfold wpX_computed
  have e : (nI p).toNatClampNeg = p := nI_clamp (by omega)
  have hi : vp_in (nI p) 20 := vp_in_nI hp (by decide)
  simp only [e]
  exact ⟨hi, nm_e ⟨hi, br_t ho h⟩⟩
theorem fo_xcomp {post : Int32 → Prop} {i1 i2 i3 i4 i5 : Int32} {o j m : Nat} (hp : p < 20) (ho : op p = nI o) (h1 : 1 ≤ o) (h7 : o ≤ 7) (ha : a p = nI j) (hj : j < 8) (hb : b p = nI m) (hm : m < 8)
    (h : post (if o = 1 then nm j else fo_res o (nm j) (nm m))) : wpX_computed post (i5, i1, i2, nI p, i3, i4, op, d, a, b, l, st, nm, ot) := by
  unfold wpX_computed
  have e : (nI p).toNatClampNeg = p := nI_clamp (by omega)
  have ej : (nI j).toNatClampNeg = j := nI_clamp (by omega)
  have em : (nI m).toNatClampNeg = m := nI_clamp (by omega)
  have hi : vp_in (nI p) 20 := vp_in_nI hp (by decide)
  have hij : vp_in (nI j) 8 := vp_in_nI hj (by decide)
  have him : vp_in (nI m) 8 := vp_in_nI hm (by decide)
  have hn0 : ¬ nI o = 0 := nI_ne0 (by omega) (by omega)
  simp only [e, ha, hb, ho, em]
  refine ⟨hi, nm_e ⟨hi, br_f hn0 ⟨hij, nm_r (congrArg nm ej) ⟨hi, him, nm_e ⟨hi, nm_e ?_⟩⟩⟩⟩⟩
  have e : o = 1 ∨ o = 2 ∨ o = 3 ∨ o = 4 ∨ o = 5 ∨ o = 6 ∨ o = 7 := by omega
  rcases e with rfl | rfl | rfl | rfl | rfl | rfl | rfl
  · exact br_t (by decide) h
  · exact br_f (by decide) (br_f (by decide) (br_t (by decide) h))
  · exact br_f (by decide) (br_f (by decide) (br_f (by decide) (br_t (by decide) h)))
  · exact br_f (by decide) (br_f (by decide) (br_f (by decide) (br_f (by decide) (br_t (by decide) h))))
  · exact br_f (by decide) (br_f (by decide) (br_f (by decide) (br_f (by decide) (br_f (by decide) (br_t (by decide) h)))))
  · exact br_f (by decide) (br_f (by decide) (br_f (by decide) (br_f (by decide) (br_f (by decide) (br_f (by decide) (br_t (by decide) h))))))
  · refine br_f (by decide) (br_f (by decide) (br_f (by decide) (br_f (by decide) (br_f (by decide) (br_f (by decide) (br_f (by decide) (br_t (by decide) ?_)))))))
    by_cases g : nm m ≤ nm j
    · refine br_t g ?_
      rw [if_neg (by decide), show fo_res 7 (nm j) (nm m) = 0 from if_pos g] at h
      exact h
    · refine br_f g ?_
      rw [if_neg (by decide), show fo_res 7 (nm j) (nm m) = 1 from if_neg g] at h
      exact h
end
end
section
section
variable {c : Nat} {op d a b l f s t st : Nat → Int32}
/-- one step of both sides: both go on, and 20 * backs + place grows, or both end alike -/
def fo_Stp (c : Nat) (op d a b l f s t st : Nat → Int32) (oc bc p : Nat) (nm ot : Nat → Int32) : Prop :=
  ∃ (oc' bc' p' : Nat) (rn' he' en' : Int32) (nm' ot' : Nat → Int32),
    ((rn' = 1 ∧ he' = 0 ∧ en' = -4 ∧ 20 * bc + p < 20 * bc' + p' ∧ p' ≤ 20 ∧ bc' ≤ 40) ∨ (rn' = 0 ∧ en' = he' ∧ ¬ he' = -4)) ∧ oc' ≤ 24 ∧
    (∀ post : SX → Prop, post (nI c, nI oc', nI bc', nI p', rn', he', op, d, a, b, l, st, nm', ot') → wpX_step post (nI c, nI oc, nI bc, nI p, 1, 0, op, d, a, b, l, st, nm, ot)) ∧
    (∀ post : SY → Prop, post (nI c, nI oc', nI bc', nI p', en', op, f, s, t, st, nm', ot') → wpY_work post (nI c, nI oc, nI bc, nI p, -4, op, f, s, t, st, nm, ot))
variable {oc bc p : Nat} {nm ot : Nat → Int32}
theorem fo_st0 (hp : p < 20) (hb : bc ≤ 40) (ho : oc ≤ 24) {i : Nat} (hi : i < 8) (h0 : op p = 0) (hd : d p = nI i) (hf : f p = nI i) (hs : s p = a p) : fo_Stp c op d a b l f s t st oc bc p nm ot := by
  have e : (nI p).toNatClampNeg = p := nI_clamp (by omega)
  have ei : (nI i).toNatClampNeg = i := nI_clamp (by omega)
  have hin : vp_in (nI p) 20 := vp_in_nI hp (by decide)
  have hii : vp_in (nI i) 8 := vp_in_nI hi (by decide)
  refine ⟨oc, bc, p + 1, 1, 0, -4, upd nm i (a p), ot, Or.inl ⟨rfl, rfl, rfl, by omega, by omega, hb⟩, ho, fun post h => ?_, fun post h => ?_⟩
  · unfold wpX_step
    simp only [e, h0, hd, ei]
    exact ⟨hin, nm_e (br_t (by decide) ⟨hin, fo_xcomp0 hp h0 ⟨hii, nm_e (nm_r (nI_1 p) h)⟩⟩)⟩
  · unfold wpY_work
    simp only [e, h0, hf, hs]
    refine ⟨hin, nm_e ⟨hin, nm_e ⟨hin, nm_e (br_f (by decide) (br_f (by decide) ?_))⟩⟩⟩
    unfold wY_work_67
    refine br_f (by decide) (br_f (by decide) (br_f (by decide) (br_t rfl ?_)))
    unfold wY_work_124
    simp only [ei]
    exact ⟨hii, nm_e (nm_r (nI_1 p) h)⟩
theorem fo_st1 (hp : p < 20) (hb : bc ≤ 40) (ho : oc ≤ 24) {i j : Nat} (hi : i < 8) (hj : j < 8) (h0 : op p = 1) (hd : d p = nI i) (hf : f p = nI i) (ha : a p = nI j) (hs : s p = nI j) (hB : b p = nI 0) : fo_Stp c op d a b l f s t st oc bc p nm ot := by
  have e : (nI p).toNatClampNeg = p := nI_clamp (by omega)
  have ei : (nI i).toNatClampNeg = i := nI_clamp (by omega)
  have ej : (nI j).toNatClampNeg = j := nI_clamp (by omega)
  have hin : vp_in (nI p) 20 := vp_in_nI hp (by decide)
  have hii : vp_in (nI i) 8 := vp_in_nI hi (by decide)
  have hij : vp_in (nI j) 8 := vp_in_nI hj (by decide)
  refine ⟨oc, bc, p + 1, 1, 0, -4, upd nm i (nm j), ot, Or.inl ⟨rfl, rfl, rfl, by omega, by omega, hb⟩, ho, fun post h => ?_, fun post h => ?_⟩
  · unfold wpX_step
    simp only [e, h0, hd, ei]
    exact ⟨hin, nm_e (br_t (by decide) ⟨hin, fo_xcomp (o := 1) hp h0 (by decide) (by decide) ha hj hB (by decide) ⟨hii, nm_e (nm_r (nI_1 p) h)⟩⟩)⟩
  · unfold wpY_work
    simp only [e, h0, hf, hs]
    refine ⟨hin, nm_e ⟨hin, nm_e ⟨hin, nm_e (br_f (by decide) (br_f (by decide) ?_))⟩⟩⟩
    unfold wY_work_67
    refine br_f (by decide) (br_f (by decide) (br_f (by decide) (br_f (by decide) ⟨hij, ?_⟩)))
    unfold wY_work_124
    simp only [ei, ej]
    exact ⟨hii, nm_e (nm_r (nI_1 p) h)⟩
theorem fo_lt8 {o : Nat} (h : o ≤ 7) : nI o < 8 := nI_lt (b := 8) (by omega) (by decide)
theorem fo_neL {o : Nat} (m : Nat) (h : o < m) (hm : m < 2 ^ 31) : ¬ nI o = nI m := fun z => by
  rw [nI_eq (by omega) hm] at z
  omega
theorem fo_st2 (hp : p < 20) (hb : bc ≤ 40) (ho : oc ≤ 24) {o i j m : Nat} (h2 : 2 ≤ o) (h7 : o ≤ 7) (hi : i < 8) (hj : j < 8) (hm : m < 8) (h0 : op p = nI o) (hd : d p = nI i) (hf : f p = nI i) (ha : a p = nI j) (hs : s p = nI j) (hB : b p = nI m) (ht : t p = nI m) : fo_Stp c op d a b l f s t st oc bc p nm ot := by
  have e : (nI p).toNatClampNeg = p := nI_clamp (by omega)
  have ei : (nI i).toNatClampNeg = i := nI_clamp (by omega)
  have ej : (nI j).toNatClampNeg = j := nI_clamp (by omega)
  have em : (nI m).toNatClampNeg = m := nI_clamp (by omega)
  have hin : vp_in (nI p) 20 := vp_in_nI hp (by decide)
  have hii : vp_in (nI i) 8 := vp_in_nI hi (by decide)
  have hij : vp_in (nI j) 8 := vp_in_nI hj (by decide)
  have him : vp_in (nI m) 8 := vp_in_nI hm (by decide)
  have hr : (if o = 1 then nm j else fo_res o (nm j) (nm m)) = fo_res o (nm j) (nm m) := if_neg (by omega)
  refine ⟨oc, bc, p + 1, 1, 0, -4, upd nm i (fo_res o (nm j) (nm m)), ot, Or.inl ⟨rfl, rfl, rfl, by omega, by omega, hb⟩, ho, fun post h => ?_, fun post h => ?_⟩
  · unfold wpX_step
    simp only [e, h0, hd, ei]
    refine ⟨hin, nm_e (br_t (fo_lt8 h7) ⟨hin, fo_xcomp (o := o) hp h0 (by omega) h7 ha hj hB hm ?_⟩)⟩
    rw [hr]
    exact ⟨hii, nm_e (nm_r (nI_1 p) h)⟩
  · unfold wpY_work
    simp only [e, h0, hf, hs]
    refine ⟨hin, nm_e ⟨hin, nm_e ⟨hin, nm_e (br_f (fo_neL 8 (by omega) (by decide)) (br_f (fo_neL 9 (by omega) (by decide)) ?_))⟩⟩⟩
    unfold wY_work_67
    simp only [e, ht, ei, ej, em]
    refine br_f (fo_neL 10 (by omega) (by decide)) (br_f (fo_neL 11 (by omega) (by decide)) (br_t (nI_le (a := 2) h2 (by omega)) (br_f (nI_ge (b := 8) (by omega) (by decide)) ⟨hij, hin, him, ?_⟩)))
    exact fo_yres h2 h7 ⟨hii, nm_e (nm_r (nI_1 p) h)⟩
theorem fo_go (hp : p < 20) (hb : bc ≤ 40) (ho : oc ≤ 24) {m : Nat} (hm : m < 21)
    (hX : ∀ post : SX → Prop, wpX_goOnAt post (nI c, nI oc, nI bc, nI p, 1, 0, op, d, a, b, l, st, nm, ot) (nI m) → wpX_step post (nI c, nI oc, nI bc, nI p, 1, 0, op, d, a, b, l, st, nm, ot))
    (hY : ∀ post : SY → Prop, wpY_goTo post (nI c, nI oc, nI bc, nI p, -4, op, f, s, t, st, nm, ot) (nI m) → wpY_work post (nI c, nI oc, nI bc, nI p, -4, op, f, s, t, st, nm, ot)) : fo_Stp c op d a b l f s t st oc bc p nm ot := by
  by_cases h : p < m
  · refine ⟨oc, bc, m, 1, 0, -4, nm, ot, Or.inl ⟨rfl, rfl, rfl, by omega, by omega, hb⟩, ho, fun post q => hX post ?_, fun post q => hY post ?_⟩
    · exact fo_xgo hm (by omega) hb (fun _ => q) (fun z => absurd z (by omega)) (fun z => absurd z (by omega))
    · exact fo_ygo hm (by omega) hb (fun _ => q) (fun z => absurd z (by omega)) (fun z => absurd z (by omega))
  · by_cases g : bc < 40
    · refine ⟨oc, bc + 1, m, 1, 0, -4, nm, ot, Or.inl ⟨rfl, rfl, rfl, by omega, by omega, by omega⟩, ho, fun post q => hX post ?_, fun post q => hY post ?_⟩
      · exact fo_xgo hm (by omega) hb (fun z => absurd z h) (fun _ _ => q) (fun _ z => absurd z (by omega))
      · exact fo_ygo hm (by omega) hb (fun z => absurd z h) (fun _ _ => q) (fun _ z => absurd z (by omega))
    · refine ⟨oc, bc, p, 0, 2, 2, nm, ot, Or.inr ⟨rfl, rfl, by decide⟩, ho, fun post q => hX post ?_, fun post q => hY post ?_⟩
      · exact fo_xgo hm (by omega) hb (fun z => absurd z h) (fun _ z => absurd z g) (fun _ _ => q)
      · exact fo_ygo hm (by omega) hb (fun z => absurd z h) (fun _ z => absurd z g) (fun _ _ => q)
theorem fo_st8 (hp : p < 20) (hb : bc ≤ 40) (ho : oc ≤ 24) {m : Nat} (hm : m < 21) (h0 : op p = 8) (hl : l p = nI m) (hs : s p = nI m) : fo_Stp c op d a b l f s t st oc bc p nm ot := by
  have e : (nI p).toNatClampNeg = p := nI_clamp (by omega)
  have hin : vp_in (nI p) 20 := vp_in_nI hp (by decide)
  refine fo_go hp hb ho hm (fun post q => ?_) (fun post q => ?_)
  · unfold wpX_step
    simp only [e, h0, hl]
    exact ⟨hin, nm_e (br_f (by decide) (br_f (by decide) (br_t rfl ⟨hin, q⟩)))⟩
  · unfold wpY_work
    simp only [e, h0, hs]
    exact ⟨hin, nm_e ⟨hin, nm_e ⟨hin, nm_e (br_t rfl q)⟩⟩⟩
theorem fo_st9 (hp : p < 20) (hb : bc ≤ 40) (ho : oc ≤ 24) {i m : Nat} (hi : i < 8) (hm : m < 21) (h0 : op p = 9) (ha : a p = nI i) (hf : f p = nI i) (hl : l p = nI m) (hs : s p = nI m) : fo_Stp c op d a b l f s t st oc bc p nm ot := by
  have e : (nI p).toNatClampNeg = p := nI_clamp (by omega)
  have ei : (nI i).toNatClampNeg = i := nI_clamp (by omega)
  have hin : vp_in (nI p) 20 := vp_in_nI hp (by decide)
  have hii : vp_in (nI i) 8 := vp_in_nI hi (by decide)
  by_cases z : nm i = 0
  · refine ⟨oc, bc, p + 1, 1, 0, -4, nm, ot, Or.inl ⟨rfl, rfl, rfl, by omega, by omega, hb⟩, ho, fun post h => ?_, fun post h => ?_⟩
    · unfold wpX_step
      simp only [e, h0, ha, ei]
      exact ⟨hin, nm_e (br_f (by decide) (br_f (by decide) (br_f (by decide) (br_t rfl ⟨hin, hii, br_t z (nm_r (nI_1 p) h)⟩))))⟩
    · unfold wpY_work
      simp only [e, h0, hs, hf, ei]
      refine ⟨hin, nm_e ⟨hin, nm_r rfl ⟨hin, nm_e (br_f (by decide) (br_t rfl ⟨hii, ?_⟩))⟩⟩⟩
      simp only [ei]
      refine br_t z ?_
      unfold wY_work_67
      exact br_f (by decide) (br_f (by decide) (br_t (by decide) (br_t (by decide) (nm_r (nI_1 p) h))))
  · refine fo_go hp hb ho hm (fun post q => ?_) (fun post q => ?_)
    · unfold wpX_step
      simp only [e, h0, ha, hl, ei]
      exact ⟨hin, nm_e (br_f (by decide) (br_f (by decide) (br_f (by decide) (br_t rfl ⟨hin, hii, br_f z ⟨hin, q⟩⟩))))⟩
    · unfold wpY_work
      simp only [e, h0, hs, hf]
      refine ⟨hin, nm_e ⟨hin, nm_r rfl ⟨hin, nm_e (br_f (by decide) (br_t rfl ⟨hii, ?_⟩))⟩⟩⟩
      simp only [ei]
      exact br_f z q
theorem fo_st10 (hp : p < 20) (hb : bc ≤ 40) (ho : oc ≤ 24) {i : Nat} (hi : i < 8) (h0 : op p = 10) (ha : a p = nI i) (hf : f p = nI i) : fo_Stp c op d a b l f s t st oc bc p nm ot := by
  have e : (nI p).toNatClampNeg = p := nI_clamp (by omega)
  have ei : (nI i).toNatClampNeg = i := nI_clamp (by omega)
  have hin : vp_in (nI p) 20 := vp_in_nI hp (by decide)
  have hii : vp_in (nI i) 8 := vp_in_nI hi (by decide)
  have kX : ∀ post : SX → Prop, wpX_putOut post (nI c, nI oc, nI bc, nI p, 1, 0, op, d, a, b, l, st, nm, ot) (nm i) → wpX_step post (nI c, nI oc, nI bc, nI p, 1, 0, op, d, a, b, l, st, nm, ot) := by
    intro post q
    unfold wpX_step
    simp only [e, h0, ha, ei]
    exact ⟨hin, nm_e (br_f (by decide) (br_f (by decide) (br_f (by decide) (br_f (by decide) (br_t rfl ⟨hin, hii, q⟩)))))⟩
  have kY : ∀ post : SY → Prop, wpY_putOut post (nI c, nI oc, nI bc, nI p, -4, op, f, s, t, st, nm, ot) (nm i) → wpY_work post (nI c, nI oc, nI bc, nI p, -4, op, f, s, t, st, nm, ot) := by
    intro post q
    unfold wpY_work
    simp only [e, h0, hf]
    refine ⟨hin, nm_e ⟨hin, nm_e ⟨hin, nm_e (br_f (by decide) (br_f (by decide) ?_))⟩⟩⟩
    unfold wY_work_67
    simp only [ei]
    exact br_t trivial ⟨hii, q⟩
  by_cases g : oc < 24
  · refine ⟨oc + 1, bc, p + 1, 1, 0, -4, nm, upd ot oc (nm i), Or.inl ⟨rfl, rfl, rfl, by omega, by omega, hb⟩, by omega, fun post h => kX post ?_, fun post h => kY post ?_⟩
    · exact fo_xput ho (fun _ => h) (fun z => absurd z (by omega))
    · exact fo_yput ho (fun _ => h) (fun z => absurd z (by omega))
  · refine ⟨oc, bc, p, 0, 1, 1, nm, ot, Or.inr ⟨rfl, rfl, by decide⟩, ho, fun post h => kX post ?_, fun post h => kY post ?_⟩
    · exact fo_xput ho (fun z => absurd z g) (fun _ => h)
    · exact fo_yput ho (fun z => absurd z g) (fun _ => h)
theorem fo_st11 (hp : p < 20) (ho : oc ≤ 24) (h0 : op p = 11) : fo_Stp c op d a b l f s t st oc bc p nm ot := by
  have e : (nI p).toNatClampNeg = p := nI_clamp (by omega)
  have hin : vp_in (nI p) 20 := vp_in_nI hp (by decide)
  refine ⟨oc, bc, p, 0, 0, 0, nm, ot, Or.inr ⟨rfl, rfl, by decide⟩, ho, fun post h => ?_, fun post h => ?_⟩
  · unfold wpX_step
    simp only [e, h0]
    exact ⟨hin, nm_e (br_f (by decide) (br_f (by decide) (br_f (by decide) (br_f (by decide) (br_f (by decide) (br_t rfl h))))))⟩
  · unfold wpY_work
    simp only [e, h0]
    refine ⟨hin, nm_e ⟨hin, nm_e ⟨hin, nm_e (br_f (by decide) (br_f (by decide) ?_))⟩⟩⟩
    unfold wY_work_67
    exact br_f (by decide) (br_t rfl h)
theorem fo_stp (hP : fo_Prog op d a b l f s t) (hp : p < 20) (hb : bc ≤ 40) (ho : oc ≤ 24) : fo_Stp c op d a b l f s t st oc bc p nm ot := by
  rcases hP p hp with ⟨i, hi, h0, h1, h2, h3⟩ | ⟨i, j, hi, hj, h0, h1, h2, h3, h4, h5⟩ | ⟨o, i, j, m, h2, h7, hi, hj, hm, h0, hd, hf, ha, hs, hB, ht⟩ | ⟨m, hm, h0, h1, h2⟩ | ⟨i, m, hi, hm, h0, h1, h2, h3, h4⟩ | ⟨i, hi, h0, h1, h2⟩ | h0
  · exact fo_st0 hp hb ho hi h0 h1 h2 h3
  · exact fo_st1 hp hb ho hi hj h0 h1 h2 h3 h4 h5
  · exact fo_st2 hp hb ho h2 h7 hi hj hm h0 hd hf ha hs hB ht
  · exact fo_st8 hp hb ho hm h0 h1 h2
  · exact fo_st9 hp hb ho hi hm h0 h1 h2 h3 h4
  · exact fo_st10 hp hb ho hi h0 h1 h2
  · exact fo_st11 hp ho h0
end
end
section
section
variable {c : Nat} {op d a b l f s t st : Nat → Int32}
theorem fo_run (hc : c ≤ 20) (hP : fo_Prog op d a b l f s t) : ∀ (n sp oc bc p : Nat) (nm ot : Nat → Int32), 820 ≤ 20 * bc + p + n → sp ≤ 20 * bc + p → p ≤ 20 → bc ≤ 40 → oc ≤ 24 →
    ∃ (oc' bc' : Nat) (p' rn' he' : Int32) (nm' ot' : Nat → Int32), oc' ≤ 24 ∧
      (∀ post : SX → Prop, post (nI c, nI oc', nI bc', p', rn', he', op, d, a, b, l, st, nm', ot') → wX_run_6 post (n + 2) (nI sp) (nI c) (nI oc) (nI bc) (nI p) 1 0 op d a b l st nm ot) ∧
      (∀ post : SY → Prop, post (nI c, nI oc', nI bc', p', he', op, f, s, t, st, nm', ot') → wY_run_47 post (n + 2) (nI c) (nI oc) (nI bc) (nI p) (-4) op f s t st nm ot) := by
  intro n
  induction n with
  | zero =>
    intro sp oc bc p nm ot h1 h2 h3 h4 h5
    have hcp : c ≤ p := by omega
    refine ⟨oc, bc, nI p, 1, 0, nm, ot, h5, fun post h => ?_, fun post h => ?_⟩
    · exact br_c (fun _ => h) (fun _ => br_f fo_10 (br_t (nI_le hcp (by omega)) h))
    · exact br_t rfl (br_f (nI_nlt hcp (by omega)) (br_f (by decide) h))
  | succ n ih =>
    intro sp oc bc p nm ot h1 h2 h3 h4 h5
    by_cases hcp : c ≤ p
    · refine ⟨oc, bc, nI p, 1, 0, nm, ot, h5, fun post h => ?_, fun post h => ?_⟩
      · exact br_c (fun _ => h) (fun _ => br_f fo_10 (br_t (nI_le hcp (by omega)) h))
      · exact br_t rfl (br_f (nI_nlt hcp (by omega)) (br_f (by decide) h))
    · have hs : ¬ (820 : Int32) ≤ nI sp := nI_ge (b := 820) (by omega) (by decide)
      have hg : ¬ nI c ≤ nI p := nI_ge (by omega) (by omega)
      have hl : nI p < nI c := nI_lt (by omega) (by omega)
      obtain ⟨oc1, bc1, p1, rn1, he1, en1, nm1, ot1, hw, ho1, hX, hY⟩ := fo_stp (c := c) (st := st) (nm := nm) (ot := ot) hP (p := p) (by omega) h4 h5
      rcases hw with ⟨rfl, rfl, rfl, g1, g2, g3⟩ | ⟨rfl, rfl, g1⟩
      · obtain ⟨oc2, bc2, p2, rn2, he2, nm2, ot2, ho2, iX, iY⟩ := ih (sp + 1) oc1 bc1 p1 nm1 ot1 (by omega) (by omega) g2 g3 ho1
        refine ⟨oc2, bc2, p2, rn2, he2, nm2, ot2, ho2, fun post h => ?_, fun post h => ?_⟩
        · exact br_f hs (br_f fo_10 (br_f hg (hX _ (nm_r (nI_1 sp) (iX post h)))))
        · exact br_t rfl (br_t hl (hY _ (iY post h)))
      · refine ⟨oc1, bc1, nI p1, 0, en1, nm1, ot1, ho1, fun post h => ?_, fun post h => ?_⟩
        · exact br_f hs (br_f fo_10 (br_f hg (hX _ (nm_e (br_c (fun _ => h) (fun _ => br_t rfl h))))))
        · exact br_t rfl (br_t hl (hY _ (br_f g1 h)))
theorem fo_xbeg {post : SX → Prop} {oc bc pp rn he : Int32} {nm ot : Nat → Int32} (h : post (nI c, 0, 0, 0, 1, 0, op, d, a, b, l, st, fo_cp nm st 8, ot)) :
    ∀ n i : Nat, i + n = 8 → wX_beginRun_2 post (nI c) oc bc pp rn he (n + 1) (nI i) op d a b l st (fo_cp nm st i) ot := by
  intro n
  induction n with
  | zero =>
    intro i hi
    obtain rfl : i = 8 := by omega
    exact br_t (by decide) h
  | succ n ih =>
    intro i hi
    have e : (nI i).toNatClampNeg = i := nI_clamp (by omega)
    have hin : vp_in (nI i) 8 := vp_in_nI (by omega) (by decide)
    refine br_f (nI_ge (b := 8) (by omega) (by decide)) ⟨hin, hin, nm_r (e' := fo_cp nm st (i + 1)) (by rw [e]; rfl) (nm_r (nI_1 i) (ih (i + 1) (by omega)))⟩
theorem fo_ybeg {post : SY → Prop} {mn bk pl en : Int32} {nm ot : Nat → Int32} (h : ∃ n : Nat, wY_run_47 post n (nI c) 0 0 0 (-4) op f s t st (fo_cp nm st 8) ot) :
    ∀ n i : Nat, i + n = 8 → wY_run_2 post (nI c) mn bk pl en (n + 1) (nI i) op f s t st (fo_cp nm st i) ot := by
  intro n
  induction n with
  | zero =>
    intro i hi
    obtain rfl : i = 8 := by omega
    exact br_t (by decide) h
  | succ n ih =>
    intro i hi
    have e : (nI i).toNatClampNeg = i := nI_clamp (by omega)
    have hin : vp_in (nI i) 8 := vp_in_nI (by omega) (by decide)
    refine br_f (nI_ge (b := 8) (by omega) (by decide)) ⟨hin, hin, nm_r (e' := fo_cp nm st (i + 1)) (by rw [e]; rfl) (nm_r (nI_1 i) (ih (i + 1) (by omega)))⟩
/-- the whole run, both sides, from states that agree -/
theorem fo_all (hc : c ≤ 20) (hP : fo_Prog op d a b l f s t) (oc bc pp rn he mn bk pl en : Int32) (nm ot : Nat → Int32) :
    ∃ (oc' bc' : Nat) (p' rn' he' : Int32) (nm' ot' : Nat → Int32), oc' ≤ 24 ∧
      (∀ post : SX → Prop, post (nI c, nI oc', nI bc', p', rn', he', op, d, a, b, l, st, nm', ot') → wpX_run post (nI c, oc, bc, pp, rn, he, op, d, a, b, l, st, nm, ot)) ∧
      (∀ post : SY → Prop, post (nI c, nI oc', nI bc', p', he', op, f, s, t, st, nm', ot') → wpY_run post (nI c, mn, bk, pl, en, op, f, s, t, st, nm, ot)) := by
  obtain ⟨oc2, bc2, p2, rn2, he2, nm2, ot2, ho2, iX, iY⟩ := fo_run (st := st) hc hP 820 0 0 0 0 (fo_cp nm st 8) ot (by omega) (by omega) (by omega) (by omega) (by omega)
  refine ⟨oc2, bc2, p2, rn2, he2, nm2, ot2, ho2, fun post h => ?_, fun post h => ?_⟩
  · unfold wpX_run
    exact ⟨9, fo_xbeg ⟨822, iX post h⟩ 8 0 rfl⟩
  · unfold wpY_run
    exact ⟨9, fo_ybeg ⟨822, iY post h⟩ 8 0 rfl⟩
end
section
variable {c oc : Nat} {bc pp rn he mn bk pl en : Int32} {op d a b l f s t st nm ot : Nat → Int32}
theorem fo_dig (ho : oc ≤ 24) : ∀ (n i : Nat) (x : Int32), i + n = oc → ∃ r : Int32,
      (∀ post : Int32 → SX → Prop, post r (nI c, nI oc, bc, pp, rn, he, op, d, a, b, l, st, nm, ot) → wX_digest_8 post (nI c) (nI oc) bc pp rn he op d a b l st nm ot (n + 1) x (nI i)) ∧
      (∀ post : Int32 → SY → Prop, post r (nI c, nI oc, bk, pl, en, op, f, s, t, st, nm, ot) → wY_digest_8 post (nI c) (nI oc) bk pl en op f s t st nm ot (n + 1) x (nI i)) := by
  intro n
  induction n with
  | zero =>
    intro i x hi
    have h : nI oc ≤ nI i := nI_le (by omega) (by omega)
    exact ⟨x, fun post q => br_t h q, fun post q => br_t h q⟩
  | succ n ih =>
    intro i x hi
    have h : ¬ nI oc ≤ nI i := nI_ge (by omega) (by omega)
    have hin : vp_in (nI i) 24 := vp_in_nI (by omega) (by decide)
    obtain ⟨r, hX, hY⟩ := ih (i + 1) (x + ((nI i + 1) * ot (nI i).toNatClampNeg)) (by omega)
    exact ⟨r, fun post q => br_f h ⟨hin, nm_e (nm_r (nI_1 i) (hX post q))⟩, fun post q => br_f h ⟨hin, nm_e (nm_r (nI_1 i) (hY post q))⟩⟩
/-- none of the outputs from i up to k is the k-th -/
def fo_fst (ot : Nat → Int32) (i k : Nat) : Prop := ∀ j : Nat, i ≤ j → j < k → ¬ ot j = ot k
theorem fo_fst_s {i k : Nat} (hk : i < k) (h : ¬ ot i = ot k) : fo_fst ot i k ↔ fo_fst ot (i + 1) k := by
  constructor
  · exact fun q j h1 h2 => q j (by omega) h2
  · intro q j h1 h2
    by_cases e : j = i
    · rw [e]
      exact h
    · exact q j (by omega) h2
theorem fo_xfst {post : Int32 → Prop} {x : Int32} {k : Nat} (hk : k < 24) : ∀ n i : Nat, i + n = k → (fo_fst ot i k → post 1) → (¬ fo_fst ot i k → post 0) → wX_isFirstOfItsKind_2 post (nI k) (nI c) x bc pp rn he op d a b l st nm ot (n + 1) (nI i) := by
  intro n
  induction n with
  | zero =>
    intro i hi h1 h0
    exact br_t (nI_le (by omega) (by omega)) (h1 (fun j g1 g2 => absurd g2 (by omega)))
  | succ n ih =>
    intro i hi h1 h0
    have ei : (nI i).toNatClampNeg = i := nI_clamp (by omega)
    have ek : (nI k).toNatClampNeg = k := nI_clamp (by omega)
    have hii : vp_in (nI i) 24 := vp_in_nI (by omega) (by decide)
    have hik : vp_in (nI k) 24 := vp_in_nI (by omega) (by decide)
    refine br_f (nI_ge (by omega) (by omega)) ⟨hii, hik, ?_⟩
    rw [ei, ek]
    refine br_c (fun z => h0 (fun q => q i (by omega) (by omega) z)) (fun z => nm_r (nI_1 i) ?_)
    rw [fo_fst_s (by omega) z] at h1 h0
    exact ih (i + 1) (by omega) h1 h0
theorem fo_yfst {post : Int32 → SY → Prop} {J8 : Int32 → Int32 → Prop} {x1 x : Int32} {k : Nat} (hk : k < 24) : ∀ (n i : Nat) (z : Bool), i + n = k → ((z = true ∧ fo_fst ot i k) → J8 (x1 + 1) (nI (k + 1))) → (¬ (z = true ∧ fo_fst ot i k) → J8 x1 (nI (k + 1))) → wY_kinds_21 post J8 x1 (nI k) (nI c) x bk pl en op f s t st nm ot (n + 1) (if z = true then 1 else 0) (nI i) := by
  intro n
  induction n with
  | zero =>
    intro i z hi h1 h0
    refine br_t (nI_le (by omega) (by omega)) ?_
    have hf : fo_fst ot i k := fun j g1 g2 => absurd g2 (by omega)
    cases z
    · exact br_t rfl (nm_r (nI_1 k) (h0 (fun q => absurd q.1 (by decide))))
    · exact br_f fo_10 (nm_e (nm_r (nI_1 k) (h1 ⟨rfl, hf⟩)))
  | succ n ih =>
    intro i z hi h1 h0
    have ei : (nI i).toNatClampNeg = i := nI_clamp (by omega)
    have ek : (nI k).toNatClampNeg = k := nI_clamp (by omega)
    have hii : vp_in (nI i) 24 := vp_in_nI (by omega) (by decide)
    have hik : vp_in (nI k) 24 := vp_in_nI (by omega) (by decide)
    refine br_f (nI_ge (by omega) (by omega)) ?_
    cases z
    · exact br_t rfl (nm_r (nI_1 i) (ih (i + 1) false (by omega) (fun q => absurd q.1 (by decide)) (fun _ => h0 (fun q => absurd q.1 (by decide)))))
    · refine br_f fo_10 ⟨hii, hik, ?_⟩
      rw [ei, ek]
      refine br_c (fun g => nm_r (nI_1 i) (ih (i + 1) false (by omega) (fun q => absurd q.1 (by decide)) (fun _ => h0 (fun q => q.2 i (by omega) (by omega) g)))) (fun g => nm_r (nI_1 i) ?_)
      rw [fo_fst_s (by omega) g] at h1 h0
      exact ih (i + 1) true (by omega) h1 h0
theorem fo_knd (ho : oc ≤ 24) : ∀ (n i : Nat) (x : Int32), i + n = oc → ∃ r : Int32,
      (∀ post : Int32 → SX → Prop, post r (nI c, nI oc, bc, pp, rn, he, op, d, a, b, l, st, nm, ot) → wX_kinds_8 post (nI c) (nI oc) bc pp rn he op d a b l st nm ot (n + 1) x (nI i)) ∧
      (∀ post : Int32 → SY → Prop, post r (nI c, nI oc, bk, pl, en, op, f, s, t, st, nm, ot) → wY_kinds_8 post (nI c) (nI oc) bk pl en op f s t st nm ot (n + 1) x (nI i)) := by
  intro n
  induction n with
  | zero =>
    intro i x hi
    have h : nI oc ≤ nI i := nI_le (by omega) (by omega)
    exact ⟨x, fun post q => br_t h q, fun post q => br_t h q⟩
  | succ n ih =>
    intro i x hi
    have h : ¬ nI oc ≤ nI i := nI_ge (by omega) (by omega)
    by_cases g : fo_fst ot 0 i
    · obtain ⟨r, hX, hY⟩ := ih (i + 1) (x + 1) (by omega)
      refine ⟨r, fun post q => br_f h ?_, fun post q => br_f h ⟨i + 1, ?_⟩⟩
      · exact ⟨i + 1, fo_xfst (by omega) i 0 (by omega) (fun _ => br_f fo_10 (nm_e (nm_r (nI_1 i) (hX post q)))) (fun z => absurd g z)⟩
      · exact fo_yfst (by omega) i 0 true (by omega) (fun _ => hY post q) (fun z => absurd ⟨rfl, g⟩ z)
    · obtain ⟨r, hX, hY⟩ := ih (i + 1) x (by omega)
      refine ⟨r, fun post q => br_f h ?_, fun post q => br_f h ⟨i + 1, ?_⟩⟩
      · exact ⟨i + 1, fo_xfst (by omega) i 0 (by omega) (fun z => absurd z g) (fun _ => br_t rfl (nm_r (nI_1 i) (hX post q)))⟩
      · exact fo_yfst (by omega) i 0 true (by omega) (fun z => absurd z.2 g) (fun _ => hY post q)
end
end
section
theorem i_vc_ending {k : Nat} {u : SX} {v : SY} (I : i_Rel k u v) (hk : k + 5 ≤ 2560) : wpX_ending (fun r u' => wpY_ending (fun r' v' => r' = r ∧ i_Rel (k + 5) u' v') v) u := by
  obtain ⟨c, oc, bc, pp, rn, he, mn, bk, pl, en, op, d, a, b, l, f, s, t, st, nm, ot, rfl, rfl, hc, hP⟩ := I
  obtain ⟨oc2, bc2, p2, rn2, he2, nm2, ot2, ho2, hX, hY⟩ := fo_all (st := st) hc hP oc bc pp rn he mn bk pl en nm ot
  exact hX _ (hY _ ⟨rfl, fo_rel hc hP⟩)
theorem i_vc_outs {k : Nat} {u : SX} {v : SY} (I : i_Rel k u v) (hk : k + 5 ≤ 2560) : wpX_outs (fun r u' => wpY_outs (fun r' v' => r' = r ∧ i_Rel (k + 5) u' v') v) u := by
  obtain ⟨c, oc, bc, pp, rn, he, mn, bk, pl, en, op, d, a, b, l, f, s, t, st, nm, ot, rfl, rfl, hc, hP⟩ := I
  obtain ⟨oc2, bc2, p2, rn2, he2, nm2, ot2, ho2, hX, hY⟩ := fo_all (st := st) hc hP oc bc pp rn he mn bk pl en nm ot
  exact hX _ (hY _ ⟨rfl, fo_rel hc hP⟩)
theorem i_vc_backs {k : Nat} {u : SX} {v : SY} (I : i_Rel k u v) (hk : k + 5 ≤ 2560) : wpX_backs (fun r u' => wpY_backs (fun r' v' => r' = r ∧ i_Rel (k + 5) u' v') v) u := by
  obtain ⟨c, oc, bc, pp, rn, he, mn, bk, pl, en, op, d, a, b, l, f, s, t, st, nm, ot, rfl, rfl, hc, hP⟩ := I
  obtain ⟨oc2, bc2, p2, rn2, he2, nm2, ot2, ho2, hX, hY⟩ := fo_all (st := st) hc hP oc bc pp rn he mn bk pl en nm ot
  exact hX _ (hY _ ⟨rfl, fo_rel hc hP⟩)
theorem i_vc_output {k : Nat} {u : SX} {v : SY} (I : i_Rel k u v) (hk : k + 5 ≤ 2560) (v1 : Int32) : wpX_output (fun r u' => wpY_output (fun r' v' => r' = r ∧ i_Rel (k + 5) u' v') v v1) u v1 := by
  obtain ⟨c, oc, bc, pp, rn, he, mn, bk, pl, en, op, d, a, b, l, f, s, t, st, nm, ot, rfl, rfl, hc, hP⟩ := I
  obtain ⟨oc2, bc2, p2, rn2, he2, nm2, ot2, ho2, hX, hY⟩ := fo_all (st := st) hc hP oc bc pp rn he mn bk pl en nm ot
  refine hX _ ?_
  refine br_c (fun z => hY _ (br_t z ⟨rfl, fo_rel hc hP⟩)) (fun z => ?_)
  obtain ⟨j, hj, rfl⟩ := nI_of z
  refine pk_lt j oc2 (fun g => ?_) (fun g => ?_)
  · have hin : vp_in (nI j) 24 := vp_in_nI (by omega) (by decide)
    exact ⟨hin, hY _ (br_f z (br_f (nI_ge g (by omega)) ⟨hin, rfl, fo_rel hc hP⟩))⟩
  · exact hY _ (br_f z (br_t (nI_le g hj) ⟨rfl, fo_rel hc hP⟩))
theorem i_vc_digest {k : Nat} {u : SX} {v : SY} (I : i_Rel k u v) (hk : k + 5 ≤ 2560) : wpX_digest (fun r u' => wpY_digest (fun r' v' => r' = r ∧ i_Rel (k + 5) u' v') v) u := by
  obtain ⟨c, oc, bc, pp, rn, he, mn, bk, pl, en, op, d, a, b, l, f, s, t, st, nm, ot, rfl, rfl, hc, hP⟩ := I
  obtain ⟨oc2, bc2, p2, rn2, he2, nm2, ot2, ho2, hX, hY⟩ := fo_all (st := st) hc hP oc bc pp rn he mn bk pl en nm ot
  obtain ⟨r, gX, gY⟩ := fo_dig (c := c) (bc := nI bc2) (pp := p2) (rn := rn2) (he := he2) (bk := nI bc2) (pl := p2) (en := he2) (op := op) (d := d) (a := a) (b := b) (l := l) (f := f) (s := s) (t := t) (st := st) (nm := nm2) (ot := ot2) ho2 oc2 0 0 (by omega)
  exact hX _ ⟨oc2 + 1, gX _ (hY _ ⟨oc2 + 1, gY _ ⟨rfl, fo_rel hc hP⟩⟩)⟩
theorem i_vc_kinds {k : Nat} {u : SX} {v : SY} (I : i_Rel k u v) (hk : k + 5 ≤ 2560) : wpX_kinds (fun r u' => wpY_kinds (fun r' v' => r' = r ∧ i_Rel (k + 5) u' v') v) u := by
  obtain ⟨c, oc, bc, pp, rn, he, mn, bk, pl, en, op, d, a, b, l, f, s, t, st, nm, ot, rfl, rfl, hc, hP⟩ := I
  obtain ⟨oc2, bc2, p2, rn2, he2, nm2, ot2, ho2, hX, hY⟩ := fo_all (st := st) hc hP oc bc pp rn he mn bk pl en nm ot
  obtain ⟨r, gX, gY⟩ := fo_knd (c := c) (bc := nI bc2) (pp := p2) (rn := rn2) (he := he2) (bk := nI bc2) (pl := p2) (en := he2) (op := op) (d := d) (a := a) (b := b) (l := l) (f := f) (s := s) (t := t) (st := st) (nm := nm2) (ot := ot2) ho2 oc2 0 0 (by omega)
  exact hX _ ⟨oc2 + 1, gX _ (hY _ ⟨oc2 + 1, gY _ ⟨rfl, fo_rel hc hP⟩⟩)⟩
end
