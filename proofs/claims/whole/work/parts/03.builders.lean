section
variable {c : Nat} {oc bc pp rn he mn bk pl en : Int32} {op d a b l f s t st nm ot : Nat → Int32}
def fo_SC (x1 x2 x3 : Int32) : Prop := ((x1 = 0 ∧ ¬ x3 < (-50) ∧ ¬ 50 < x3) ∨ (x1 = 1 ∧ fo_Num x3)) ∧ fo_Num x2
def fo_AC (x1 x2 x3 x4 : Int32) : Prop := ¬ x1 < 2 ∧ ¬ 7 < x1 ∧ fo_Num x2 ∧ fo_Num x3 ∧ fo_Num x4
def fo_BC (x1 x2 : Int32) : Prop := fo_Num x1 ∧ fo_Plc x2
theorem fo_xs26 {post : Int32 → SX → Prop} {x1 x2 x3 z0 : Int32} {C : Prop} (hc : c ≤ 20) (hz : z0 = 0 → ¬ C) (hz1 : ¬ z0 = 0 → fo_Num x2 → C) (hN : C → fo_Num x2)
    (h1 : C → c < 20 → post (nI c) (nI (c + 1), oc, bc, pp, rn, he, upd op c x1, upd d c x2, upd a c x3, upd b c 0, upd l c 0, st, nm, ot)) (h2 : C → c = 20 → post (-2) (nI c, oc, bc, pp, rn, he, op, d, a, b, l, st, nm, ot)) (h0 : ¬ C → post (-1) (nI c, oc, bc, pp, rn, he, op, d, a, b, l, st, nm, ot)) : wX_simple_26 post x1 x2 x3 z0 (nI c) oc bc pp rn he op d a b l st nm ot := by
  unfold wX_simple_26
  refine fo_xnum (fun hn => br_f fo_10 (br_c (fun z => h0 (hz z)) (fun z => ?_))) (fun hn => br_t rfl (h0 (fun z => hn (hN z))))
  exact fo_xapp hc (h1 (hz1 z hn)) (h2 (hz1 z hn))
theorem fo_ys42 {post : Int32 → SY → Prop} {x1 x2 x3 z0 : Int32} {C : Prop} (hc : c ≤ 20) (hz : z0 = 0 → ¬ C) (hz1 : ¬ z0 = 0 → fo_Num x2 → C) (hN : C → fo_Num x2)
    (h1 : C → c < 20 → post (nI c) (nI (c + 1), mn, bk, pl, en, upd op c x1, upd f c x2, upd s c x3, upd t c 0, st, nm, ot)) (h2 : C → c = 20 → post (-2) (nI c, mn, bk, pl, en, op, f, s, t, st, nm, ot)) (h0 : ¬ C → post (-1) (nI c, mn, bk, pl, en, op, f, s, t, st, nm, ot)) : wY_simple_42 post x1 x2 x3 z0 (nI c) mn bk pl en op f s t st nm ot := by
  unfold wY_simple_42
  refine br_c (fun z => h0 (hz z)) (fun z => ?_)
  refine fo_ynum (fun hn => br_f fo_10 ?_) (fun hn => br_t rfl (h0 (fun z => hn (hN z))))
  exact fo_yapp hc (h1 (hz1 z hn)) (h2 (hz1 z hn))
theorem fo_xsimple {post : Int32 → SX → Prop} {x1 x2 x3 : Int32} (hc : c ≤ 20)
    (h1 : fo_SC x1 x2 x3 → c < 20 → post (nI c) (nI (c + 1), oc, bc, pp, rn, he, upd op c x1, upd d c x2, upd a c x3, upd b c 0, upd l c 0, st, nm, ot)) (h2 : fo_SC x1 x2 x3 → c = 20 → post (-2) (nI c, oc, bc, pp, rn, he, op, d, a, b, l, st, nm, ot)) (h0 : ¬ fo_SC x1 x2 x3 → post (-1) (nI c, oc, bc, pp, rn, he, op, d, a, b, l, st, nm, ot)) : wpX_simple post (nI c, oc, bc, pp, rn, he, op, d, a, b, l, st, nm, ot) x1 x2 x3 := by
  have hN : fo_SC x1 x2 x3 → fo_Num x2 := fun z => z.2
  have key : x1 = 0 ∨ x1 = 1 → wX_simple_11 post x1 x2 x3 (nI c) oc bc pp rn he op d a b l st nm ot := by
    intro hx
    unfold wX_simple_11
    refine br_c (fun z => ?_) (fun z => ?_)
    · refine ⟨fun g => ?_, fun g => ⟨fun g2 => ?_, fun g2 => ?_⟩⟩
      · exact fo_xs26 hc (fun _ q => by rcases q.1 with q | q; exact q.2.1 g; exact absurd (z.symm.trans q.1) (by decide)) (fun q => absurd rfl q) hN h1 h2 h0
      · exact fo_xs26 hc (fun _ q => by rcases q.1 with q | q; exact q.2.2 g2; exact absurd (z.symm.trans q.1) (by decide)) (fun q => absurd rfl q) hN h1 h2 h0
      · exact fo_xs26 hc (fun q => absurd q fo_10) (fun _ q => ⟨Or.inl ⟨z, g, g2⟩, q⟩) hN h1 h2 h0
    · have e1 : x1 = 1 := hx.resolve_left z
      refine fo_xnum (fun g => ?_) (fun g => ?_)
      · exact fo_xs26 hc (fun q => absurd q fo_10) (fun _ q => ⟨Or.inr ⟨e1, g⟩, q⟩) hN h1 h2 h0
      · exact fo_xs26 hc (fun _ q => by rcases q.1 with q | q; exact z q.1; exact g q.2) (fun q => absurd rfl q) hN h1 h2 h0
  unfold wpX_simple
  exact br_c (fun z => key (Or.inl z)) (fun z => br_c (fun z1 => key (Or.inr z1)) (fun z1 => h0 (fun q => q.1.elim (fun q => z q.1) (fun q => z1 q.1))))
theorem fo_ysimple {post : Int32 → SY → Prop} {x1 x2 x3 : Int32} (hc : c ≤ 20)
    (h1 : fo_SC x1 x2 x3 → c < 20 → post (nI c) (nI (c + 1), mn, bk, pl, en, upd op c x1, upd f c x2, upd s c x3, upd t c 0, st, nm, ot)) (h2 : fo_SC x1 x2 x3 → c = 20 → post (-2) (nI c, mn, bk, pl, en, op, f, s, t, st, nm, ot)) (h0 : ¬ fo_SC x1 x2 x3 → post (-1) (nI c, mn, bk, pl, en, op, f, s, t, st, nm, ot)) : wpY_simple post (nI c, mn, bk, pl, en, op, f, s, t, st, nm, ot) x1 x2 x3 := by
  have hN : fo_SC x1 x2 x3 → fo_Num x2 := fun z => z.2
  have k0 : ¬ fo_SC x1 x2 x3 → wY_simple_42 post x1 x2 x3 0 (nI c) mn bk pl en op f s t st nm ot := fun g => fo_ys42 hc (fun _ => g) (fun q => absurd rfl q) hN h1 h2 h0
  have k1 : (fo_Num x2 → fo_SC x1 x2 x3) → wY_simple_42 post x1 x2 x3 1 (nI c) mn bk pl en op f s t st nm ot := fun g => fo_ys42 hc (fun q => absurd q fo_10) (fun _ q => g q) hN h1 h2 h0
  unfold wpY_simple
  refine br_c (fun z => br_c (fun g => k0 ?_) (fun g => br_c (fun g2 => k0 ?_) (fun g2 => k1 (fun q => ⟨Or.inl ⟨z, g, g2⟩, q⟩)))) (fun z => br_c (fun z1 => fo_ynum (fun g => br_f fo_10 (k1 (fun q => ⟨Or.inr ⟨z1, g⟩, q⟩))) (fun g => br_t rfl (k0 ?_))) (fun z1 => k0 ?_))
  · exact fun q => by rcases q.1 with q | q; exact q.2.1 g; exact absurd (z.symm.trans q.1) (by decide)
  · exact fun q => by rcases q.1 with q | q; exact q.2.2 g2; exact absurd (z.symm.trans q.1) (by decide)
  · exact fun q => q.1.elim (fun q => z q.1) (fun q => g q.2)
  · exact fun q => q.1.elim (fun q => z q.1) (fun q => z1 q.1)
theorem fo_xapply {post : Int32 → SX → Prop} {x1 x2 x3 x4 : Int32} (hc : c ≤ 20)
    (h1 : fo_AC x1 x2 x3 x4 → c < 20 → post (nI c) (nI (c + 1), oc, bc, pp, rn, he, upd op c x1, upd d c x2, upd a c x3, upd b c x4, upd l c 0, st, nm, ot)) (h2 : fo_AC x1 x2 x3 x4 → c = 20 → post (-2) (nI c, oc, bc, pp, rn, he, op, d, a, b, l, st, nm, ot)) (h0 : ¬ fo_AC x1 x2 x3 x4 → post (-1) (nI c, oc, bc, pp, rn, he, op, d, a, b, l, st, nm, ot)) : wpX_apply post (nI c, oc, bc, pp, rn, he, op, d, a, b, l, st, nm, ot) x1 x2 x3 x4 := by
  unfold wpX_apply
  refine br_c (fun z => h0 (fun q => q.1 z)) (fun z => br_c (fun z7 => ?_) (fun z7 => h0 (fun q => z7 (Int32.not_lt.mp q.2.1))))
  refine fo_xnum (fun n2 => br_f fo_10 ?_) (fun n2 => br_t rfl (h0 (fun q => n2 q.2.2.1)))
  refine fo_xnum (fun n3 => br_f fo_10 ?_) (fun n3 => br_t rfl (h0 (fun q => n3 q.2.2.2.1)))
  refine fo_xnum (fun n4 => br_f fo_10 ?_) (fun n4 => br_t rfl (h0 (fun q => n4 q.2.2.2.2)))
  have hC : fo_AC x1 x2 x3 x4 := ⟨z, Int32.not_lt.mpr z7, n2, n3, n4⟩
  exact fo_xapp hc (h1 hC) (h2 hC)
theorem fo_yapply {post : Int32 → SY → Prop} {x1 x2 x3 x4 : Int32} (hc : c ≤ 20)
    (h1 : fo_AC x1 x2 x3 x4 → c < 20 → post (nI c) (nI (c + 1), mn, bk, pl, en, upd op c x1, upd f c x2, upd s c x3, upd t c x4, st, nm, ot)) (h2 : fo_AC x1 x2 x3 x4 → c = 20 → post (-2) (nI c, mn, bk, pl, en, op, f, s, t, st, nm, ot)) (h0 : ¬ fo_AC x1 x2 x3 x4 → post (-1) (nI c, mn, bk, pl, en, op, f, s, t, st, nm, ot)) : wpY_apply post (nI c, mn, bk, pl, en, op, f, s, t, st, nm, ot) x1 x2 x3 x4 := by
  have k0 : ¬ fo_AC x1 x2 x3 x4 → wY_apply_40 post x1 x2 x3 x4 (nI c) mn bk pl en op f s t st nm ot := fun g => br_t rfl (h0 g)
  unfold wpY_apply
  refine br_c (fun z => k0 (fun q => q.1 z)) (fun z => br_c (fun z7 => k0 (fun q => q.2.1 z7)) (fun z7 => ?_))
  refine fo_ynum (fun n2 => br_f fo_10 ?_) (fun n2 => br_t rfl (k0 (fun q => n2 q.2.2.1)))
  refine fo_ynum (fun n3 => br_f fo_10 ?_) (fun n3 => br_t rfl (k0 (fun q => n3 q.2.2.2.1)))
  refine fo_ynum (fun n4 => br_f fo_10 ?_) (fun n4 => br_t rfl (k0 (fun q => n4 q.2.2.2.2)))
  have hC : fo_AC x1 x2 x3 x4 := ⟨z, z7, n2, n3, n4⟩
  exact br_f fo_10 (fo_yapp hc (h1 hC) (h2 hC))
theorem fo_xjump {post : Int32 → SX → Prop} {x1 : Int32} (hc : c ≤ 20)
    (h1 : fo_Plc x1 → c < 20 → post (nI c) (nI (c + 1), oc, bc, pp, rn, he, upd op c 8, upd d c 0, upd a c 0, upd b c 0, upd l c x1, st, nm, ot)) (h2 : fo_Plc x1 → c = 20 → post (-2) (nI c, oc, bc, pp, rn, he, op, d, a, b, l, st, nm, ot)) (h0 : ¬ fo_Plc x1 → post (-1) (nI c, oc, bc, pp, rn, he, op, d, a, b, l, st, nm, ot)) : wpX_jump post (nI c, oc, bc, pp, rn, he, op, d, a, b, l, st, nm, ot) x1 := by
  unfold wpX_jump
  exact fo_xplc (fun n => br_f fo_10 (fo_xapp hc (h1 n) (h2 n))) (fun n => br_t rfl (h0 n))
theorem fo_yjump {post : Int32 → SY → Prop} {x1 : Int32} (hc : c ≤ 20)
    (h1 : fo_Plc x1 → c < 20 → post (nI c) (nI (c + 1), mn, bk, pl, en, upd op c 8, upd f c 0, upd s c x1, upd t c 0, st, nm, ot)) (h2 : fo_Plc x1 → c = 20 → post (-2) (nI c, mn, bk, pl, en, op, f, s, t, st, nm, ot)) (h0 : ¬ fo_Plc x1 → post (-1) (nI c, mn, bk, pl, en, op, f, s, t, st, nm, ot)) : wpY_jump post (nI c, mn, bk, pl, en, op, f, s, t, st, nm, ot) x1 := by
  unfold wpY_jump
  exact fo_yplc (fun n => fo_yapp hc (h1 n) (h2 n)) (fun n => h0 n)
theorem fo_xbranch {post : Int32 → SX → Prop} {x1 x2 : Int32} (hc : c ≤ 20)
    (h1 : fo_BC x1 x2 → c < 20 → post (nI c) (nI (c + 1), oc, bc, pp, rn, he, upd op c 9, upd d c 0, upd a c x1, upd b c 0, upd l c x2, st, nm, ot)) (h2 : fo_BC x1 x2 → c = 20 → post (-2) (nI c, oc, bc, pp, rn, he, op, d, a, b, l, st, nm, ot)) (h0 : ¬ fo_BC x1 x2 → post (-1) (nI c, oc, bc, pp, rn, he, op, d, a, b, l, st, nm, ot)) : wpX_branch post (nI c, oc, bc, pp, rn, he, op, d, a, b, l, st, nm, ot) x1 x2 := by
  unfold wpX_branch
  refine fo_xnum (fun n => br_f fo_10 ?_) (fun n => br_t rfl (h0 (fun q => n q.1)))
  exact fo_xplc (fun m => br_f fo_10 (fo_xapp hc (h1 ⟨n, m⟩) (h2 ⟨n, m⟩))) (fun m => br_t rfl (h0 (fun q => m q.2)))
theorem fo_ybranch {post : Int32 → SY → Prop} {x1 x2 : Int32} (hc : c ≤ 20)
    (h1 : fo_BC x1 x2 → c < 20 → post (nI c) (nI (c + 1), mn, bk, pl, en, upd op c 9, upd f c x1, upd s c x2, upd t c 0, st, nm, ot)) (h2 : fo_BC x1 x2 → c = 20 → post (-2) (nI c, mn, bk, pl, en, op, f, s, t, st, nm, ot)) (h0 : ¬ fo_BC x1 x2 → post (-1) (nI c, mn, bk, pl, en, op, f, s, t, st, nm, ot)) : wpY_branch post (nI c, mn, bk, pl, en, op, f, s, t, st, nm, ot) x1 x2 := by
  unfold wpY_branch
  refine fo_ynum (fun n => br_f fo_10 ?_) (fun n => br_t rfl (h0 (fun q => n q.1)))
  exact fo_yplc (fun m => fo_yapp hc (h1 ⟨n, m⟩) (h2 ⟨n, m⟩)) (fun m => h0 (fun q => m q.2))
theorem fo_xout {post : Int32 → SX → Prop} {x1 : Int32} (hc : c ≤ 20)
    (h1 : fo_Num x1 → c < 20 → post (nI c) (nI (c + 1), oc, bc, pp, rn, he, upd op c 10, upd d c 0, upd a c x1, upd b c 0, upd l c 0, st, nm, ot)) (h2 : fo_Num x1 → c = 20 → post (-2) (nI c, oc, bc, pp, rn, he, op, d, a, b, l, st, nm, ot)) (h0 : ¬ fo_Num x1 → post (-1) (nI c, oc, bc, pp, rn, he, op, d, a, b, l, st, nm, ot)) : wpX_out post (nI c, oc, bc, pp, rn, he, op, d, a, b, l, st, nm, ot) x1 := by
  unfold wpX_out
  exact fo_xnum (fun n => br_f fo_10 (fo_xapp hc (h1 n) (h2 n))) (fun n => br_t rfl (h0 n))
theorem fo_yout {post : Int32 → SY → Prop} {x1 : Int32} (hc : c ≤ 20)
    (h1 : fo_Num x1 → c < 20 → post (nI c) (nI (c + 1), mn, bk, pl, en, upd op c 10, upd f c x1, upd s c 0, upd t c 0, st, nm, ot)) (h2 : fo_Num x1 → c = 20 → post (-2) (nI c, mn, bk, pl, en, op, f, s, t, st, nm, ot)) (h0 : ¬ fo_Num x1 → post (-1) (nI c, mn, bk, pl, en, op, f, s, t, st, nm, ot)) : wpY_out post (nI c, mn, bk, pl, en, op, f, s, t, st, nm, ot) x1 := by
  unfold wpY_out
  exact fo_ynum (fun n => br_f fo_10 (fo_yapp hc (h1 n) (h2 n))) (fun n => br_t rfl (h0 n))
theorem fo_xhalt {post : Int32 → SX → Prop} (hc : c ≤ 20)
    (h1 : True → c < 20 → post (nI c) (nI (c + 1), oc, bc, pp, rn, he, upd op c 11, upd d c 0, upd a c 0, upd b c 0, upd l c 0, st, nm, ot)) (h2 : True → c = 20 → post (-2) (nI c, oc, bc, pp, rn, he, op, d, a, b, l, st, nm, ot)) (h0 : ¬ True → post (-1) (nI c, oc, bc, pp, rn, he, op, d, a, b, l, st, nm, ot)) : wpX_halt post (nI c, oc, bc, pp, rn, he, op, d, a, b, l, st, nm, ot) := by
  unfold wpX_halt
  exact fo_xapp hc (h1 trivial) (h2 trivial)
theorem fo_yhalt {post : Int32 → SY → Prop} (hc : c ≤ 20)
    (h1 : True → c < 20 → post (nI c) (nI (c + 1), mn, bk, pl, en, upd op c 11, upd f c 0, upd s c 0, upd t c 0, st, nm, ot)) (h2 : True → c = 20 → post (-2) (nI c, mn, bk, pl, en, op, f, s, t, st, nm, ot)) (h0 : ¬ True → post (-1) (nI c, mn, bk, pl, en, op, f, s, t, st, nm, ot)) : wpY_halt post (nI c, mn, bk, pl, en, op, f, s, t, st, nm, ot) := by
  unfold wpY_halt
  exact fo_yapp hc (h1 trivial) (h2 trivial)
end
theorem fo_opr {x : Int32} (h2 : ¬ x < 2) (h7 : ¬ 7 < x) : ∃ o : Nat, 2 ≤ o ∧ o ≤ 7 ∧ x = nI o := by
  have h0 : ¬ x < 0 := fun z => h2 (Int32.lt_of_lt_of_le z (by decide))
  obtain ⟨j, hj, rfl⟩ := nI_of h0
  refine ⟨j, ?_, ?_, rfl⟩
  · have h : ¬ nI j < nI 2 := h2
    rw [nI_ltI hj (by decide)] at h
    omega
  · have h : ¬ nI 7 < nI j := h7
    rw [nI_ltI (by decide) hj] at h
    omega
theorem fo_is {x1 x2 x3 : Int32} (h : fo_SC x1 x2 x3) : fo_Ins x1 x2 x3 0 0 x2 x3 0 := by
  obtain ⟨h, i, hi, rfl⟩ := h
  rcases h with ⟨rfl, _, _⟩ | ⟨rfl, j, hj, rfl⟩
  · exact Or.inl ⟨i, hi, rfl, rfl, rfl, rfl⟩
  · exact Or.inr (Or.inl ⟨i, j, hi, hj, rfl, rfl, rfl, rfl, rfl, nI_0.symm⟩)
theorem fo_ia {x1 x2 x3 x4 : Int32} (h : fo_AC x1 x2 x3 x4) : fo_Ins x1 x2 x3 x4 0 x2 x3 x4 := by
  obtain ⟨h2, h7, ⟨i, hi, rfl⟩, ⟨j, hj, rfl⟩, ⟨m, hm, rfl⟩⟩ := h
  obtain ⟨o, ho2, ho7, rfl⟩ := fo_opr h2 h7
  exact Or.inr (Or.inr (Or.inl ⟨o, i, j, m, ho2, ho7, hi, hj, hm, rfl, rfl, rfl, rfl, rfl, rfl, rfl⟩))
theorem fo_ij {x1 : Int32} (h : fo_Plc x1) : fo_Ins 8 0 0 0 x1 0 x1 0 := by
  obtain ⟨m, hm, rfl⟩ := h
  exact Or.inr (Or.inr (Or.inr (Or.inl ⟨m, hm, rfl, rfl, rfl⟩)))
theorem fo_ib {x1 x2 : Int32} (h : fo_BC x1 x2) : fo_Ins 9 0 x1 0 x2 x1 x2 0 := by
  obtain ⟨⟨i, hi, rfl⟩, m, hm, rfl⟩ := h
  exact Or.inr (Or.inr (Or.inr (Or.inr (Or.inl ⟨i, m, hi, hm, rfl, rfl, rfl, rfl, rfl⟩))))
theorem fo_io {x1 : Int32} (h : fo_Num x1) : fo_Ins 10 0 x1 0 0 x1 0 0 := by
  obtain ⟨i, hi, rfl⟩ := h
  exact Or.inr (Or.inr (Or.inr (Or.inr (Or.inr (Or.inl ⟨i, hi, rfl, rfl, rfl⟩)))))
theorem fo_ih : fo_Ins 11 0 0 0 0 0 0 0 := Or.inr (Or.inr (Or.inr (Or.inr (Or.inr (Or.inr rfl)))))
theorem i_vc_simple {k : Nat} {u : SX} {v : SY} (I : i_Rel k u v) (hk : k + 5 ≤ 2560) (v1 : Int32) (v2 : Int32) (v3 : Int32) : wpX_simple (fun r u' => wpY_simple (fun r' v' => r' = r ∧ i_Rel (k + 5) u' v') v v1 v2 v3) u v1 v2 v3 := by
  obtain ⟨c, oc, bc, pp, rn, he, mn, bk, pl, en, op, d, a, b, l, f, s, t, st, nm, ot, rfl, rfl, hc, hP⟩ := I
  exact fo_build (C := fo_SC v1 v2 v3) hc hP (fun post => wpX_simple post (nI c, oc, bc, pp, rn, he, op, d, a, b, l, st, nm, ot) v1 v2 v3) (fun post => wpY_simple post (nI c, mn, bk, pl, en, op, f, s, t, st, nm, ot) v1 v2 v3) fo_is (fun _ h1 h2 h0 => fo_xsimple hc h1 h2 h0) (fun _ h1 h2 h0 => fo_ysimple hc h1 h2 h0)
theorem i_vc_apply {k : Nat} {u : SX} {v : SY} (I : i_Rel k u v) (hk : k + 5 ≤ 2560) (v1 : Int32) (v2 : Int32) (v3 : Int32) (v4 : Int32) : wpX_apply (fun r u' => wpY_apply (fun r' v' => r' = r ∧ i_Rel (k + 5) u' v') v v1 v2 v3 v4) u v1 v2 v3 v4 := by
  obtain ⟨c, oc, bc, pp, rn, he, mn, bk, pl, en, op, d, a, b, l, f, s, t, st, nm, ot, rfl, rfl, hc, hP⟩ := I
  exact fo_build (C := fo_AC v1 v2 v3 v4) hc hP (fun post => wpX_apply post (nI c, oc, bc, pp, rn, he, op, d, a, b, l, st, nm, ot) v1 v2 v3 v4) (fun post => wpY_apply post (nI c, mn, bk, pl, en, op, f, s, t, st, nm, ot) v1 v2 v3 v4) fo_ia (fun _ h1 h2 h0 => fo_xapply hc h1 h2 h0) (fun _ h1 h2 h0 => fo_yapply hc h1 h2 h0)
theorem i_vc_jump {k : Nat} {u : SX} {v : SY} (I : i_Rel k u v) (hk : k + 5 ≤ 2560) (v1 : Int32) : wpX_jump (fun r u' => wpY_jump (fun r' v' => r' = r ∧ i_Rel (k + 5) u' v') v v1) u v1 := by
  obtain ⟨c, oc, bc, pp, rn, he, mn, bk, pl, en, op, d, a, b, l, f, s, t, st, nm, ot, rfl, rfl, hc, hP⟩ := I
  exact fo_build (C := fo_Plc v1) hc hP (fun post => wpX_jump post (nI c, oc, bc, pp, rn, he, op, d, a, b, l, st, nm, ot) v1) (fun post => wpY_jump post (nI c, mn, bk, pl, en, op, f, s, t, st, nm, ot) v1) fo_ij (fun _ h1 h2 h0 => fo_xjump hc h1 h2 h0) (fun _ h1 h2 h0 => fo_yjump hc h1 h2 h0)
theorem i_vc_branch {k : Nat} {u : SX} {v : SY} (I : i_Rel k u v) (hk : k + 5 ≤ 2560) (v1 : Int32) (v2 : Int32) : wpX_branch (fun r u' => wpY_branch (fun r' v' => r' = r ∧ i_Rel (k + 5) u' v') v v1 v2) u v1 v2 := by
  obtain ⟨c, oc, bc, pp, rn, he, mn, bk, pl, en, op, d, a, b, l, f, s, t, st, nm, ot, rfl, rfl, hc, hP⟩ := I
  exact fo_build (C := fo_BC v1 v2) hc hP (fun post => wpX_branch post (nI c, oc, bc, pp, rn, he, op, d, a, b, l, st, nm, ot) v1 v2) (fun post => wpY_branch post (nI c, mn, bk, pl, en, op, f, s, t, st, nm, ot) v1 v2) fo_ib (fun _ h1 h2 h0 => fo_xbranch hc h1 h2 h0) (fun _ h1 h2 h0 => fo_ybranch hc h1 h2 h0)
theorem i_vc_out {k : Nat} {u : SX} {v : SY} (I : i_Rel k u v) (hk : k + 5 ≤ 2560) (v1 : Int32) : wpX_out (fun r u' => wpY_out (fun r' v' => r' = r ∧ i_Rel (k + 5) u' v') v v1) u v1 := by
  obtain ⟨c, oc, bc, pp, rn, he, mn, bk, pl, en, op, d, a, b, l, f, s, t, st, nm, ot, rfl, rfl, hc, hP⟩ := I
  exact fo_build (C := fo_Num v1) hc hP (fun post => wpX_out post (nI c, oc, bc, pp, rn, he, op, d, a, b, l, st, nm, ot) v1) (fun post => wpY_out post (nI c, mn, bk, pl, en, op, f, s, t, st, nm, ot) v1) fo_io (fun _ h1 h2 h0 => fo_xout hc h1 h2 h0) (fun _ h1 h2 h0 => fo_yout hc h1 h2 h0)
theorem i_vc_halt {k : Nat} {u : SX} {v : SY} (I : i_Rel k u v) (hk : k + 5 ≤ 2560) : wpX_halt (fun r u' => wpY_halt (fun r' v' => r' = r ∧ i_Rel (k + 5) u' v') v) u := by
  obtain ⟨c, oc, bc, pp, rn, he, mn, bk, pl, en, op, d, a, b, l, f, s, t, st, nm, ot, rfl, rfl, hc, hP⟩ := I
  exact fo_build (C := True) hc hP (fun post => wpX_halt post (nI c, oc, bc, pp, rn, he, op, d, a, b, l, st, nm, ot)) (fun post => wpY_halt post (nI c, mn, bk, pl, en, op, f, s, t, st, nm, ot)) (fun _ => fo_ih) (fun _ h1 h2 h0 => fo_xhalt hc h1 h2 h0) (fun _ h1 h2 h0 => fo_yhalt hc h1 h2 h0)
theorem i_vc_drop {k : Nat} {u : SX} {v : SY} (I : i_Rel k u v) (hk : k + 5 ≤ 2560) : wpX_drop (fun r u' => wpY_drop (fun r' v' => r' = r ∧ i_Rel (k + 5) u' v') v) u := by
  obtain ⟨c, oc, bc, pp, rn, he, mn, bk, pl, en, op, d, a, b, l, f, s, t, st, nm, ot, rfl, rfl, hc, hP⟩ := I
  unfold wpX_drop wpY_drop
  rcases c with _ | c
  · exact br_t nI_0 (br_t nI_0 ⟨rfl, fo_rel hc hP⟩)
  · have hn : ¬ nI (c + 1) = 0 := nI_ne0 (by omega) (by omega)
    have hi : vp_in (nI c) 20 := vp_in_nI (by omega) (by decide)
    exact br_f hn (nm_r (nI_pred c) ⟨hi, br_f hn (nm_r (nI_pred c) ⟨hi, rfl, fo_rel (by omega) hP⟩)⟩)
theorem i_vc_clear {k : Nat} {u : SX} {v : SY} (I : i_Rel k u v) (hk : k + 5 ≤ 2560) : wpX_clear (fun u' => wpY_clear (fun v' => i_Rel (k + 5) u' v') v) u := by
  obtain ⟨c, oc, bc, pp, rn, he, mn, bk, pl, en, op, d, a, b, l, f, s, t, st, nm, ot, rfl, rfl, hc, hP⟩ := I
  exact fo_rel (k := k + 5) (c := 0) (by omega) hP
theorem i_vc_size {k : Nat} {u : SX} {v : SY} (I : i_Rel k u v) (hk : k + 5 ≤ 2560) : wpX_size (fun r => wpY_size (fun r' => r' = r ∧ i_Rel (k + 5) u v) v) u := by
  obtain ⟨c, oc, bc, pp, rn, he, mn, bk, pl, en, op, d, a, b, l, f, s, t, st, nm, ot, rfl, rfl, hc, hP⟩ := I
  exact ⟨rfl, fo_rel hc hP⟩
theorem i_vc_start {k : Nat} {u : SX} {v : SY} (I : i_Rel k u v) (hk : k + 5 ≤ 2560) (v1 : Int32) (v2 : Int32) : wpX_start (fun r u' => wpY_start (fun r' v' => r' = r ∧ i_Rel (k + 5) u' v') v v1 v2) u v1 v2 := by
  obtain ⟨c, oc, bc, pp, rn, he, mn, bk, pl, en, op, d, a, b, l, f, s, t, st, nm, ot, rfl, rfl, hc, hP⟩ := I
  unfold wpX_start wpY_start
  refine fo_xnum (fun n => br_f fo_10 ?_) (fun n => br_t rfl ?_)
  · have hi : vp_in v1 8 := by
      obtain ⟨i, hi, rfl⟩ := n
      exact vp_in_nI hi (by decide)
    refine ⟨hi, nm_e ?_⟩
    exact fo_ynum (fun _ => br_f fo_10 ⟨hi, nm_e ⟨rfl, fo_rel hc hP⟩⟩) (fun n' => absurd n n')
  · exact fo_ynum (fun n' => absurd n' n) (fun _ => br_t rfl ⟨rfl, fo_rel hc hP⟩)
