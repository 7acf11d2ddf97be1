theorem i_vc_ending {k : Nat} {u : SX} {v : SY} (I : i_Rel k u v) (hk : k + 5 ≤ 2560) : wpX_ending (fun r u' => wpY_ending (fun r' v' => r' = r ∧ i_Rel (k + 5) u' v') v) u := by
  obtain ⟨c, oc, bc, pp, rn, he, mn, bk, pl, en, op, d, a, b, l, f, s, t, st, nm, ot, rfl, rfl, hc, hP⟩ := I
  obtain ⟨oc2, bc2, p2, rn2, he2, nm2, ot2, ho2, hX, hY⟩ := fo_all (st := st) hc hP oc bc pp rn he mn bk pl en nm ot
  exact hX _ (hY _ ⟨rfl, fo_rel hc hP⟩)
theorem i_vc_outs {k : Nat} {u : SX} {v : SY} (I : i_Rel k u v) (hk : k + 5 ≤ 2560) : wpX_outs (fun r u' => wpY_outs (fun r' v' => r' = r ∧ i_Rel (k + 5) u' v') v) u := by
  obtain ⟨c, oc, bc, pp, rn, he, mn, bk, pl, en, op, d, a, b, l, f, s, t, st, nm, ot, rfl, rfl, hc, hP⟩ := I
  obtain ⟨oc2, bc2, p2, rn2, he2, nm2, ot2, ho2, hX, hY⟩ := fo_all (st := st) hc hP oc bc pp rn he mn bk pl en nm ot
  exact hX _ (hY _ ⟨rfl, fo_rel hc hP⟩)
theorem i_vc_backs {k : Nat} {u : SX} {v : SY} (I : i_Rel k u v) (hk : k + 5 ≤ 2560) : wpX_backs (fun r u' => wpY_backs (fun r' v' => r' = r ∧ i_Rel (k + 5) u' v') v) u := by
  obtain ⟨c, oc, bc, pp, rn, he, mn, bk, pl, en, op, d, a, b, l, f, s, t, st, nm, ot, rfl, rfl, hc, hP⟩ := I
  obtain ⟨oc2, bc2, p2, rn2, he2, nm2, ot2, ho2, hX, hY⟩ := fo_all (st := st) hc hP oc bc pp rn he mn bk pl en nm ot
  exact hX _ (hY _ ⟨rfl, fo_rel hc hP⟩)
theorem i_vc_output {k : Nat} {u : SX} {v : SY} (I : i_Rel k u v) (hk : k + 5 ≤ 2560) (v1 : Int32) : wpX_output (fun r u' => wpY_output (fun r' v' => r' = r ∧ i_Rel (k + 5) u' v') v v1) u v1 := by
  obtain ⟨c, oc, bc, pp, rn, he, mn, bk, pl, en, op, d, a, b, l, f, s, t, st, nm, ot, rfl, rfl, hc, hP⟩ := I
  obtain ⟨oc2, bc2, p2, rn2, he2, nm2, ot2, ho2, hX, hY⟩ := fo_all (st := st) hc hP oc bc pp rn he mn bk pl en nm ot
  refine hX _ ?_
  refine br_c (fun z => hY _ (br_t z ⟨rfl, fo_rel hc hP⟩)) (fun z => ?_)
  obtain ⟨j, hj, rfl⟩ := nI_of z
  refine pk_lt j oc2 (fun g => ?_) (fun g => ?_)
  · have hin : vp_in (nI j) 24 := vp_in_nI (by omega) (by decide)
    exact ⟨hin, hY _ (br_f z (br_f (nI_ge g (by omega)) ⟨hin, rfl, fo_rel hc hP⟩))⟩
  · exact hY _ (br_f z (br_t (nI_le g hj) ⟨rfl, fo_rel hc hP⟩))
theorem i_vc_digest {k : Nat} {u : SX} {v : SY} (I : i_Rel k u v) (hk : k + 5 ≤ 2560) : wpX_digest (fun r u' => wpY_digest (fun r' v' => r' = r ∧ i_Rel (k + 5) u' v') v) u := by
  obtain ⟨c, oc, bc, pp, rn, he, mn, bk, pl, en, op, d, a, b, l, f, s, t, st, nm, ot, rfl, rfl, hc, hP⟩ := I
  obtain ⟨oc2, bc2, p2, rn2, he2, nm2, ot2, ho2, hX, hY⟩ := fo_all (st := st) hc hP oc bc pp rn he mn bk pl en nm ot
  obtain ⟨r, gX, gY⟩ := fo_dig (c := c) (bc := nI bc2) (pp := p2) (rn := rn2) (he := he2) (bk := nI bc2) (pl := p2) (en := he2) (op := op) (d := d) (a := a) (b := b) (l := l) (f := f) (s := s) (t := t) (st := st) (nm := nm2) (ot := ot2) ho2 oc2 0 0 (by omega)
  exact hX _ ⟨oc2 + 1, gX _ (hY _ ⟨oc2 + 1, gY _ ⟨rfl, fo_rel hc hP⟩⟩)⟩
theorem i_vc_kinds {k : Nat} {u : SX} {v : SY} (I : i_Rel k u v) (hk : k + 5 ≤ 2560) : wpX_kinds (fun r u' => wpY_kinds (fun r' v' => r' = r ∧ i_Rel (k + 5) u' v') v) u := by
  obtain ⟨c, oc, bc, pp, rn, he, mn, bk, pl, en, op, d, a, b, l, f, s, t, st, nm, ot, rfl, rfl, hc, hP⟩ := I
  obtain ⟨oc2, bc2, p2, rn2, he2, nm2, ot2, ho2, hX, hY⟩ := fo_all (st := st) hc hP oc bc pp rn he mn bk pl en nm ot
  obtain ⟨r, gX, gY⟩ := fo_knd (c := c) (bc := nI bc2) (pp := p2) (rn := rn2) (he := he2) (bk := nI bc2) (pl := p2) (en := he2) (op := op) (d := d) (a := a) (b := b) (l := l) (f := f) (s := s) (t := t) (st := st) (nm := nm2) (ot := ot2) ho2 oc2 0 0 (by omega)
  exact hX _ ⟨oc2 + 1, gX _ (hY _ ⟨oc2 + 1, gY _ ⟨rfl, fo_rel hc hP⟩⟩)⟩
