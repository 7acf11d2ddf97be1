/-- the relation: one count, the same ops, start values, numbers and outputs, and the same instructions -/
def i_Rel (_ : Nat) (u : SX) (v : SY) : Prop :=
  ∃ (c : Nat) (oc bc pp rn he mn bk pl en : Int32) (op d a b l f s t st nm ot : Nat → Int32),
    u = (nI c, oc, bc, pp, rn, he, op, d, a, b, l, st, nm, ot) ∧ v = (nI c, mn, bk, pl, en, op, f, s, t, st, nm, ot) ∧ c ≤ 20 ∧ fo_Prog op d a b l f s t
theorem i_up {k : Nat} {u : SX} {v : SY} (h : i_Rel k u v) : i_Rel (k + 5) u v := h
theorem i_vc0 : wpX_init (fun u => wpY_init (fun v => i_Rel 0 u v)) :=
  ⟨0, 0, 0, 0, 0, 0, 0, 0, 0, 0, _, _, _, _, _, _, _, _, _, _, _, rfl, rfl, by decide, fo_prog0⟩
section
variable {c : Nat} {oc bc pp rn he mn bk pl en : Int32} {op d a b l f s t st nm ot : Nat → Int32}
theorem fo_rel {k : Nat} (hc : c ≤ 20) (hP : fo_Prog op d a b l f s t) : i_Rel k (nI c, oc, bc, pp, rn, he, op, d, a, b, l, st, nm, ot) (nI c, mn, bk, pl, en, op, f, s, t, st, nm, ot) :=
  ⟨c, oc, bc, pp, rn, he, mn, bk, pl, en, op, d, a, b, l, f, s, t, st, nm, ot, rfl, rfl, hc, hP⟩
theorem fo_xapp {post : Int32 → SX → Prop} {xo xd xa xb xl : Int32} (hc : c ≤ 20)
    (h1 : c < 20 → post (nI c) (nI (c + 1), oc, bc, pp, rn, he, upd op c xo, upd d c xd, upd a c xa, upd b c xb, upd l c xl, st, nm, ot))
    (h2 : c = 20 → post (-2) (nI c, oc, bc, pp, rn, he, op, d, a, b, l, st, nm, ot)) : wpX_append post (nI c, oc, bc, pp, rn, he, op, d, a, b, l, st, nm, ot) xo xd xa xb xl := by
  unfold wpX_append
  refine pk_lt c 20 (fun h => ?_) (fun h => h2 (by omega))
  have hi : vp_in (nI c) 20 := vp_in_nI h (by decide)
  have e : (nI c).toNatClampNeg = c := nI_clamp (by omega)
  simp only [e]
  refine ⟨hi, nm_e ⟨hi, nm_e ⟨hi, nm_e ⟨hi, nm_e ⟨hi, nm_e (nm_r (nI_1 c) ?_)⟩⟩⟩⟩⟩
  rw [nI_pred]
  exact h1 h
theorem fo_yapp {post : Int32 → SY → Prop} {xo yf ys yt : Int32} (hc : c ≤ 20)
    (h1 : c < 20 → post (nI c) (nI (c + 1), mn, bk, pl, en, upd op c xo, upd f c yf, upd s c ys, upd t c yt, st, nm, ot))
    (h2 : c = 20 → post (-2) (nI c, mn, bk, pl, en, op, f, s, t, st, nm, ot)) : wpY_append post (nI c, mn, bk, pl, en, op, f, s, t, st, nm, ot) xo yf ys yt := by
  unfold wpY_append
  refine pk_eq c 20 (fun h => h2 h) (fun hn => ?_)
  have h : c < 20 := by omega
  have hi : vp_in (nI c) 20 := vp_in_nI h (by decide)
  have e : (nI c).toNatClampNeg = c := nI_clamp (by omega)
  simp only [e]
  refine ⟨hi, nm_e ⟨hi, nm_e ⟨hi, nm_e ⟨hi, nm_e (nm_r (nI_1 c) ?_)⟩⟩⟩⟩
  rw [nI_pred]
  exact h1 h
theorem fo_build {k : Nat} {C : Prop} {xo xd xa xb xl yf ys yt : Int32} (hc : c ≤ 20) (hP : fo_Prog op d a b l f s t)
    (WX : (Int32 → SX → Prop) → Prop) (WY : (Int32 → SY → Prop) → Prop)
    (hi : C → fo_Ins xo xd xa xb xl yf ys yt)
    (hX : ∀ post : Int32 → SX → Prop, (C → c < 20 → post (nI c) (nI (c + 1), oc, bc, pp, rn, he, upd op c xo, upd d c xd, upd a c xa, upd b c xb, upd l c xl, st, nm, ot)) → (C → c = 20 → post (-2) (nI c, oc, bc, pp, rn, he, op, d, a, b, l, st, nm, ot)) → (¬ C → post (-1) (nI c, oc, bc, pp, rn, he, op, d, a, b, l, st, nm, ot)) → WX post)
    (hY : ∀ post : Int32 → SY → Prop, (C → c < 20 → post (nI c) (nI (c + 1), mn, bk, pl, en, upd op c xo, upd f c yf, upd s c ys, upd t c yt, st, nm, ot)) → (C → c = 20 → post (-2) (nI c, mn, bk, pl, en, op, f, s, t, st, nm, ot)) → (¬ C → post (-1) (nI c, mn, bk, pl, en, op, f, s, t, st, nm, ot)) → WY post) :
    WX (fun r u' => WY (fun r' v' => r' = r ∧ i_Rel k u' v')) := by
  refine hX _ (fun hC h => ?_) (fun hC h => ?_) (fun hC => ?_)
  · exact hY _ (fun _ _ => ⟨rfl, fo_rel (by omega) (fo_prog_put hP (hi hC))⟩) (fun _ h' => absurd h' (by omega)) (fun hN => absurd hC hN)
  · exact hY _ (fun _ h' => absurd h' (by omega)) (fun _ _ => ⟨rfl, fo_rel hc hP⟩) (fun hN => absurd hC hN)
  · exact hY _ (fun h' _ => absurd h' hC) (fun h' _ => absurd h' hC) (fun _ => ⟨rfl, fo_rel hc hP⟩)
theorem fo_xnum {post : Int32 → Prop} {x : Int32} (h1 : fo_Num x → post 1) (h0 : ¬ fo_Num x → post 0) : wpX_isNumber post x := by
  rw [fo_num_iff] at h1 h0
  exact ⟨fun h => h0 (fun z => Int32.not_lt.mpr z.1 h), fun h => ⟨fun g => h0 (fun z => Int32.not_lt.mpr g z.2), fun g => h1 ⟨Int32.not_lt.mp h, Int32.not_le.mp g⟩⟩⟩
theorem fo_ynum {post : Int32 → Prop} {x : Int32} (h1 : fo_Num x → post 1) (h0 : ¬ fo_Num x → post 0) : wpY_isNumber post (nI c, mn, bk, pl, en, op, f, s, t, st, nm, ot) x := by
  have e : 7 < x ↔ ¬ x < 8 := by
    rw [Int32.lt_iff_toInt_lt, Int32.lt_iff_toInt_lt, show (7 : Int32).toInt = 7 from by decide, show (8 : Int32).toInt = 8 from by decide]
    omega
  rw [fo_num_iff] at h1 h0
  exact ⟨fun h => h0 (fun z => Int32.not_lt.mpr z.1 h), fun h => ⟨fun g => h0 (fun z => e.mp g z.2), fun g => h1 ⟨Int32.not_lt.mp h, Classical.not_not.mp (fun z => g (e.mpr z))⟩⟩⟩
theorem fo_xplc {post : Int32 → Prop} {x : Int32} (h1 : fo_Plc x → post 1) (h0 : ¬ fo_Plc x → post 0) : wpX_isPlace post x := by
  rw [fo_plc_iff] at h1 h0
  exact ⟨fun h => h0 (fun z => Int32.not_lt.mpr z.1 h), fun h => ⟨fun g => h0 (fun z => Int32.not_lt.mpr z.2 g), fun g => h1 ⟨Int32.not_lt.mp h, Int32.not_lt.mp g⟩⟩⟩
theorem fo_yplc {x : Int32} {A B : Prop} (h1 : fo_Plc x → B) (h0 : ¬ fo_Plc x → A) : (x < 0 → A) ∧ (¬ x < 0 → ((20 < x → A) ∧ (¬ 20 < x → B))) := by
  rw [fo_plc_iff] at h1 h0
  exact ⟨fun h => h0 (fun z => Int32.not_lt.mpr z.1 h), fun h => ⟨fun g => h0 (fun z => Int32.not_lt.mpr z.2 g), fun g => h1 ⟨Int32.not_lt.mp h, Int32.not_lt.mp g⟩⟩⟩
end
theorem fo_10 : ¬ (1 : Int32) = 0 := by decide
