section
variable {c : Nat} {op d a b l f s t st : Nat → Int32}
/-- one step of both sides: both go on, and 20 * backs + place grows, or both end alike -/
def fo_Stp (c : Nat) (op d a b l f s t st : Nat → Int32) (oc bc p : Nat) (nm ot : Nat → Int32) : Prop :=
  ∃ (oc' bc' p' : Nat) (rn' he' en' : Int32) (nm' ot' : Nat → Int32),
    ((rn' = 1 ∧ he' = 0 ∧ en' = -4 ∧ 20 * bc + p < 20 * bc' + p' ∧ p' ≤ 20 ∧ bc' ≤ 40) ∨ (rn' = 0 ∧ en' = he' ∧ ¬ he' = -4)) ∧ oc' ≤ 24 ∧
    (∀ post : SX → Prop, post (nI c, nI oc', nI bc', nI p', rn', he', op, d, a, b, l, st, nm', ot') → wpX_step post (nI c, nI oc, nI bc, nI p, 1, 0, op, d, a, b, l, st, nm, ot)) ∧
    (∀ post : SY → Prop, post (nI c, nI oc', nI bc', nI p', en', op, f, s, t, st, nm', ot') → wpY_work post (nI c, nI oc, nI bc, nI p, -4, op, f, s, t, st, nm, ot))
variable {oc bc p : Nat} {nm ot : Nat → Int32}
theorem fo_st0 (hp : p < 20) (hb : bc ≤ 40) (ho : oc ≤ 24) {i : Nat} (hi : i < 8) (h0 : op p = 0) (hd : d p = nI i) (hf : f p = nI i) (hs : s p = a p) : fo_Stp c op d a b l f s t st oc bc p nm ot := by
  have e : (nI p).toNatClampNeg = p := nI_clamp (by omega)
  have ei : (nI i).toNatClampNeg = i := nI_clamp (by omega)
  have hin : vp_in (nI p) 20 := vp_in_nI hp (by decide)
  have hii : vp_in (nI i) 8 := vp_in_nI hi (by decide)
  refine ⟨oc, bc, p + 1, 1, 0, -4, upd nm i (a p), ot, Or.inl ⟨rfl, rfl, rfl, by omega, by omega, hb⟩, ho, fun post h => ?_, fun post h => ?_⟩
  · unfold wpX_step
    simp only [e, h0, hd, ei]
    exact ⟨hin, nm_e (br_t (by decide) ⟨hin, fo_xcomp0 hp h0 ⟨hii, nm_e (nm_r (nI_1 p) h)⟩⟩)⟩
  · unfold wpY_work
    simp only [e, h0, hf, hs]
    refine ⟨hin, nm_e ⟨hin, nm_e ⟨hin, nm_e (br_f (by decide) (br_f (by decide) ?_))⟩⟩⟩
    unfold wY_work_67
    refine br_f (by decide) (br_f (by decide) (br_f (by decide) (br_t rfl ?_)))
    unfold wY_work_124
    simp only [ei]
    exact ⟨hii, nm_e (nm_r (nI_1 p) h)⟩
theorem fo_st1 (hp : p < 20) (hb : bc ≤ 40) (ho : oc ≤ 24) {i j : Nat} (hi : i < 8) (hj : j < 8) (h0 : op p = 1) (hd : d p = nI i) (hf : f p = nI i) (ha : a p = nI j) (hs : s p = nI j) (hB : b p = nI 0) : fo_Stp c op d a b l f s t st oc bc p nm ot := by
  have e : (nI p).toNatClampNeg = p := nI_clamp (by omega)
  have ei : (nI i).toNatClampNeg = i := nI_clamp (by omega)
  have ej : (nI j).toNatClampNeg = j := nI_clamp (by omega)
  have hin : vp_in (nI p) 20 := vp_in_nI hp (by decide)
  have hii : vp_in (nI i) 8 := vp_in_nI hi (by decide)
  have hij : vp_in (nI j) 8 := vp_in_nI hj (by decide)
  refine ⟨oc, bc, p + 1, 1, 0, -4, upd nm i (nm j), ot, Or.inl ⟨rfl, rfl, rfl, by omega, by omega, hb⟩, ho, fun post h => ?_, fun post h => ?_⟩
  · unfold wpX_step
    simp only [e, h0, hd, ei]
    exact ⟨hin, nm_e (br_t (by decide) ⟨hin, fo_xcomp (o := 1) hp h0 (by decide) (by decide) ha hj hB (by decide) ⟨hii, nm_e (nm_r (nI_1 p) h)⟩⟩)⟩
  · unfold wpY_work
    simp only [e, h0, hf, hs]
    refine ⟨hin, nm_e ⟨hin, nm_e ⟨hin, nm_e (br_f (by decide) (br_f (by decide) ?_))⟩⟩⟩
    unfold wY_work_67
    refine br_f (by decide) (br_f (by decide) (br_f (by decide) (br_f (by decide) ⟨hij, ?_⟩)))
    unfold wY_work_124
    simp only [ei, ej]
    exact ⟨hii, nm_e (nm_r (nI_1 p) h)⟩
theorem fo_lt8 {o : Nat} (h : o ≤ 7) : nI o < 8 := nI_lt (b := 8) (by omega) (by decide)
theorem fo_neL {o : Nat} (m : Nat) (h : o < m) (hm : m < 2 ^ 31) : ¬ nI o = nI m := fun z => by
  rw [nI_eq (by omega) hm] at z
  omega
theorem fo_st2 (hp : p < 20) (hb : bc ≤ 40) (ho : oc ≤ 24) {o i j m : Nat} (h2 : 2 ≤ o) (h7 : o ≤ 7) (hi : i < 8) (hj : j < 8) (hm : m < 8) (h0 : op p = nI o) (hd : d p = nI i) (hf : f p = nI i) (ha : a p = nI j) (hs : s p = nI j) (hB : b p = nI m) (ht : t p = nI m) : fo_Stp c op d a b l f s t st oc bc p nm ot := by
  have e : (nI p).toNatClampNeg = p := nI_clamp (by omega)
  have ei : (nI i).toNatClampNeg = i := nI_clamp (by omega)
  have ej : (nI j).toNatClampNeg = j := nI_clamp (by omega)
  have em : (nI m).toNatClampNeg = m := nI_clamp (by omega)
  have hin : vp_in (nI p) 20 := vp_in_nI hp (by decide)
  have hii : vp_in (nI i) 8 := vp_in_nI hi (by decide)
  have hij : vp_in (nI j) 8 := vp_in_nI hj (by decide)
  have him : vp_in (nI m) 8 := vp_in_nI hm (by decide)
  have hr : (if o = 1 then nm j else fo_res o (nm j) (nm m)) = fo_res o (nm j) (nm m) := if_neg (by omega)
  refine ⟨oc, bc, p + 1, 1, 0, -4, upd nm i (fo_res o (nm j) (nm m)), ot, Or.inl ⟨rfl, rfl, rfl, by omega, by omega, hb⟩, ho, fun post h => ?_, fun post h => ?_⟩
  · unfold wpX_step
    simp only [e, h0, hd, ei]
    refine ⟨hin, nm_e (br_t (fo_lt8 h7) ⟨hin, fo_xcomp (o := o) hp h0 (by omega) h7 ha hj hB hm ?_⟩)⟩
    rw [hr]
    exact ⟨hii, nm_e (nm_r (nI_1 p) h)⟩
  · unfold wpY_work
    simp only [e, h0, hf, hs]
    refine ⟨hin, nm_e ⟨hin, nm_e ⟨hin, nm_e (br_f (fo_neL 8 (by omega) (by decide)) (br_f (fo_neL 9 (by omega) (by decide)) ?_))⟩⟩⟩
    unfold wY_work_67
    simp only [e, ht, ei, ej, em]
    refine br_f (fo_neL 10 (by omega) (by decide)) (br_f (fo_neL 11 (by omega) (by decide)) (br_t (nI_le (a := 2) h2 (by omega)) (br_f (nI_ge (b := 8) (by omega) (by decide)) ⟨hij, hin, him, ?_⟩)))
    exact fo_yres h2 h7 ⟨hii, nm_e (nm_r (nI_1 p) h)⟩
theorem fo_go (hp : p < 20) (hb : bc ≤ 40) (ho : oc ≤ 24) {m : Nat} (hm : m < 21)
    (hX : ∀ post : SX → Prop, wpX_goOnAt post (nI c, nI oc, nI bc, nI p, 1, 0, op, d, a, b, l, st, nm, ot) (nI m) → wpX_step post (nI c, nI oc, nI bc, nI p, 1, 0, op, d, a, b, l, st, nm, ot))
    (hY : ∀ post : SY → Prop, wpY_goTo post (nI c, nI oc, nI bc, nI p, -4, op, f, s, t, st, nm, ot) (nI m) → wpY_work post (nI c, nI oc, nI bc, nI p, -4, op, f, s, t, st, nm, ot)) : fo_Stp c op d a b l f s t st oc bc p nm ot := by
  by_cases h : p < m
  · refine ⟨oc, bc, m, 1, 0, -4, nm, ot, Or.inl ⟨rfl, rfl, rfl, by omega, by omega, hb⟩, ho, fun post q => hX post ?_, fun post q => hY post ?_⟩
    · exact fo_xgo hm (by omega) hb (fun _ => q) (fun z => absurd z (by omega)) (fun z => absurd z (by omega))
    · exact fo_ygo hm (by omega) hb (fun _ => q) (fun z => absurd z (by omega)) (fun z => absurd z (by omega))
  · by_cases g : bc < 40
    · refine ⟨oc, bc + 1, m, 1, 0, -4, nm, ot, Or.inl ⟨rfl, rfl, rfl, by omega, by omega, by omega⟩, ho, fun post q => hX post ?_, fun post q => hY post ?_⟩
      · exact fo_xgo hm (by omega) hb (fun z => absurd z h) (fun _ _ => q) (fun _ z => absurd z (by omega))
      · exact fo_ygo hm (by omega) hb (fun z => absurd z h) (fun _ _ => q) (fun _ z => absurd z (by omega))
    · refine ⟨oc, bc, p, 0, 2, 2, nm, ot, Or.inr ⟨rfl, rfl, by decide⟩, ho, fun post q => hX post ?_, fun post q => hY post ?_⟩
      · exact fo_xgo hm (by omega) hb (fun z => absurd z h) (fun _ z => absurd z g) (fun _ _ => q)
      · exact fo_ygo hm (by omega) hb (fun z => absurd z h) (fun _ z => absurd z g) (fun _ _ => q)
theorem fo_st8 (hp : p < 20) (hb : bc ≤ 40) (ho : oc ≤ 24) {m : Nat} (hm : m < 21) (h0 : op p = 8) (hl : l p = nI m) (hs : s p = nI m) : fo_Stp c op d a b l f s t st oc bc p nm ot := by
  have e : (nI p).toNatClampNeg = p := nI_clamp (by omega)
  have hin : vp_in (nI p) 20 := vp_in_nI hp (by decide)
  refine fo_go hp hb ho hm (fun post q => ?_) (fun post q => ?_)
  · unfold wpX_step
    simp only [e, h0, hl]
    exact ⟨hin, nm_e (br_f (by decide) (br_f (by decide) (br_t rfl ⟨hin, q⟩)))⟩
  · unfold wpY_work
    simp only [e, h0, hs]
    exact ⟨hin, nm_e ⟨hin, nm_e ⟨hin, nm_e (br_t rfl q)⟩⟩⟩
theorem fo_st9 (hp : p < 20) (hb : bc ≤ 40) (ho : oc ≤ 24) {i m : Nat} (hi : i < 8) (hm : m < 21) (h0 : op p = 9) (ha : a p = nI i) (hf : f p = nI i) (hl : l p = nI m) (hs : s p = nI m) : fo_Stp c op d a b l f s t st oc bc p nm ot := by
  have e : (nI p).toNatClampNeg = p := nI_clamp (by omega)
  have ei : (nI i).toNatClampNeg = i := nI_clamp (by omega)
  have hin : vp_in (nI p) 20 := vp_in_nI hp (by decide)
  have hii : vp_in (nI i) 8 := vp_in_nI hi (by decide)
  by_cases z : nm i = 0
  · refine ⟨oc, bc, p + 1, 1, 0, -4, nm, ot, Or.inl ⟨rfl, rfl, rfl, by omega, by omega, hb⟩, ho, fun post h => ?_, fun post h => ?_⟩
    · unfold wpX_step
      simp only [e, h0, ha, ei]
      exact ⟨hin, nm_e (br_f (by decide) (br_f (by decide) (br_f (by decide) (br_t rfl ⟨hin, hii, br_t z (nm_r (nI_1 p) h)⟩))))⟩
    · unfold wpY_work
      simp only [e, h0, hs, hf, ei]
      refine ⟨hin, nm_e ⟨hin, nm_r rfl ⟨hin, nm_e (br_f (by decide) (br_t rfl ⟨hii, ?_⟩))⟩⟩⟩
      simp only [ei]
      refine br_t z ?_
      unfold wY_work_67
      exact br_f (by decide) (br_f (by decide) (br_t (by decide) (br_t (by decide) (nm_r (nI_1 p) h))))
  · refine fo_go hp hb ho hm (fun post q => ?_) (fun post q => ?_)
    · unfold wpX_step
      simp only [e, h0, ha, hl, ei]
      exact ⟨hin, nm_e (br_f (by decide) (br_f (by decide) (br_f (by decide) (br_t rfl ⟨hin, hii, br_f z ⟨hin, q⟩⟩))))⟩
    · unfold wpY_work
      simp only [e, h0, hs, hf]
      refine ⟨hin, nm_e ⟨hin, nm_r rfl ⟨hin, nm_e (br_f (by decide) (br_t rfl ⟨hii, ?_⟩))⟩⟩⟩
      simp only [ei]
      exact br_f z q
theorem fo_st10 (hp : p < 20) (hb : bc ≤ 40) (ho : oc ≤ 24) {i : Nat} (hi : i < 8) (h0 : op p = 10) (ha : a p = nI i) (hf : f p = nI i) : fo_Stp c op d a b l f s t st oc bc p nm ot := by
  have e : (nI p).toNatClampNeg = p := nI_clamp (by omega)
  have ei : (nI i).toNatClampNeg = i := nI_clamp (by omega)
  have hin : vp_in (nI p) 20 := vp_in_nI hp (by decide)
  have hii : vp_in (nI i) 8 := vp_in_nI hi (by decide)
  have kX : ∀ post : SX → Prop, wpX_putOut post (nI c, nI oc, nI bc, nI p, 1, 0, op, d, a, b, l, st, nm, ot) (nm i) → wpX_step post (nI c, nI oc, nI bc, nI p, 1, 0, op, d, a, b, l, st, nm, ot) := by
    intro post q
    unfold wpX_step
    simp only [e, h0, ha, ei]
    exact ⟨hin, nm_e (br_f (by decide) (br_f (by decide) (br_f (by decide) (br_f (by decide) (br_t rfl ⟨hin, hii, q⟩)))))⟩
  have kY : ∀ post : SY → Prop, wpY_putOut post (nI c, nI oc, nI bc, nI p, -4, op, f, s, t, st, nm, ot) (nm i) → wpY_work post (nI c, nI oc, nI bc, nI p, -4, op, f, s, t, st, nm, ot) := by
    intro post q
    unfold wpY_work
    simp only [e, h0, hf]
    refine ⟨hin, nm_e ⟨hin, nm_e ⟨hin, nm_e (br_f (by decide) (br_f (by decide) ?_))⟩⟩⟩
    unfold wY_work_67
    simp only [ei]
    exact br_t trivial ⟨hii, q⟩
  by_cases g : oc < 24
  · refine ⟨oc + 1, bc, p + 1, 1, 0, -4, nm, upd ot oc (nm i), Or.inl ⟨rfl, rfl, rfl, by omega, by omega, hb⟩, by omega, fun post h => kX post ?_, fun post h => kY post ?_⟩
    · exact fo_xput ho (fun _ => h) (fun z => absurd z (by omega))
    · exact fo_yput ho (fun _ => h) (fun z => absurd z (by omega))
  · refine ⟨oc, bc, p, 0, 1, 1, nm, ot, Or.inr ⟨rfl, rfl, by decide⟩, ho, fun post h => kX post ?_, fun post h => kY post ?_⟩
    · exact fo_xput ho (fun z => absurd z g) (fun _ => h)
    · exact fo_yput ho (fun z => absurd z g) (fun _ => h)
theorem fo_st11 (hp : p < 20) (ho : oc ≤ 24) (h0 : op p = 11) : fo_Stp c op d a b l f s t st oc bc p nm ot := by
  have e : (nI p).toNatClampNeg = p := nI_clamp (by omega)
  have hin : vp_in (nI p) 20 := vp_in_nI hp (by decide)
  refine ⟨oc, bc, p, 0, 0, 0, nm, ot, Or.inr ⟨rfl, rfl, by decide⟩, ho, fun post h => ?_, fun post h => ?_⟩
  · unfold wpX_step
    simp only [e, h0]
    exact ⟨hin, nm_e (br_f (by decide) (br_f (by decide) (br_f (by decide) (br_f (by decide) (br_f (by decide) (br_t rfl h))))))⟩
  · unfold wpY_work
    simp only [e, h0]
    refine ⟨hin, nm_e ⟨hin, nm_e ⟨hin, nm_e (br_f (by decide) (br_f (by decide) ?_))⟩⟩⟩
    unfold wY_work_67
    exact br_f (by decide) (br_t rfl h)
theorem fo_stp (hP : fo_Prog op d a b l f s t) (hp : p < 20) (hb : bc ≤ 40) (ho : oc ≤ 24) : fo_Stp c op d a b l f s t st oc bc p nm ot := by
  rcases hP p hp with ⟨i, hi, h0, h1, h2, h3⟩ | ⟨i, j, hi, hj, h0, h1, h2, h3, h4, h5⟩ | ⟨o, i, j, m, h2, h7, hi, hj, hm, h0, hd, hf, ha, hs, hB, ht⟩ | ⟨m, hm, h0, h1, h2⟩ | ⟨i, m, hi, hm, h0, h1, h2, h3, h4⟩ | ⟨i, hi, h0, h1, h2⟩ | h0
  · exact fo_st0 hp hb ho hi h0 h1 h2 h3
  · exact fo_st1 hp hb ho hi hj h0 h1 h2 h3 h4 h5
  · exact fo_st2 hp hb ho h2 h7 hi hj hm h0 hd hf ha hs hB ht
  · exact fo_st8 hp hb ho hm h0 h1 h2
  · exact fo_st9 hp hb ho hi hm h0 h1 h2 h3 h4
  · exact fo_st10 hp hb ho hi h0 h1 h2
  · exact fo_st11 hp ho h0
end
