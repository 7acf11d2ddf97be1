section
variable {c oc bc p : Nat} {rn he en : Int32} {op d a b l f s t st nm ot : Nat → Int32}
theorem fo_xgo {post : SX → Prop} {m : Nat} (hm : m < 21) (hp : p < 21) (hb : bc ≤ 40)
    (h1 : p < m → post (nI c, nI oc, nI bc, nI m, rn, he, op, d, a, b, l, st, nm, ot))
    (h2 : m ≤ p → bc < 40 → post (nI c, nI oc, nI (bc + 1), nI m, rn, he, op, d, a, b, l, st, nm, ot))
    (h3 : m ≤ p → bc = 40 → post (nI c, nI oc, nI bc, nI p, 0, 2, op, d, a, b, l, st, nm, ot)) : wpX_goOnAt post (nI c, nI oc, nI bc, nI p, rn, he, op, d, a, b, l, st, nm, ot) (nI m) := by
  unfold wpX_goOnAt
  refine pk_le m p (fun h => ?_) (fun h => h1 h)
  exact pk_lt bc 40 (fun g => nm_r (nI_1 bc) (h2 h g)) (fun g => h3 h (by omega))
theorem fo_ygo {post : SY → Prop} {m : Nat} (hm : m < 21) (hp : p < 21) (hb : bc ≤ 40)
    (h1 : p < m → post (nI c, nI oc, nI bc, nI m, en, op, f, s, t, st, nm, ot))
    (h2 : m ≤ p → bc < 40 → post (nI c, nI oc, nI (bc + 1), nI m, en, op, f, s, t, st, nm, ot))
    (h3 : m ≤ p → bc = 40 → post (nI c, nI oc, nI bc, nI p, 2, op, f, s, t, st, nm, ot)) : wpY_goTo post (nI c, nI oc, nI bc, nI p, en, op, f, s, t, st, nm, ot) (nI m) := by
  have key : (p < m ∨ bc < 40) → wY_goTo_25 post (nI m) (nI c) (nI oc) (nI bc) (nI p) en op f s t st nm ot := fun q =>
    pk_lt p m (fun h => h1 h) (fun h => nm_r (nI_1 bc) (h2 h (by omega)))
  unfold wpY_goTo
  exact pk_lt p m (fun h => key (Or.inl h)) (fun h => pk_eq bc 40 (fun g => h3 h g) (fun g => key (Or.inr (by omega))))
theorem fo_xput {post : SX → Prop} {x : Int32} (ho : oc ≤ 24)
    (h1 : oc < 24 → post (nI c, nI (oc + 1), nI bc, nI (p + 1), rn, he, op, d, a, b, l, st, nm, upd ot oc x))
    (h2 : oc = 24 → post (nI c, nI oc, nI bc, nI p, 0, 1, op, d, a, b, l, st, nm, ot)) : wpX_putOut post (nI c, nI oc, nI bc, nI p, rn, he, op, d, a, b, l, st, nm, ot) x := by
  unfold wpX_putOut
  have e : (nI oc).toNatClampNeg = oc := nI_clamp (by omega)
  simp only [e]
  exact pk_lt oc 24 (fun g => ⟨vp_in_nI g (by decide), nm_e (nm_r (nI_1 oc) (nm_r (nI_1 p) (h1 g)))⟩) (fun g => h2 (by omega))
theorem fo_yput {post : SY → Prop} {x : Int32} (ho : oc ≤ 24)
    (h1 : oc < 24 → post (nI c, nI (oc + 1), nI bc, nI (p + 1), en, op, f, s, t, st, nm, upd ot oc x))
    (h2 : oc = 24 → post (nI c, nI oc, nI bc, nI p, 1, op, f, s, t, st, nm, ot)) : wpY_putOut post (nI c, nI oc, nI bc, nI p, en, op, f, s, t, st, nm, ot) x := by
  unfold wpY_putOut
  have e : (nI oc).toNatClampNeg = oc := nI_clamp (by omega)
  simp only [e]
  exact pk_eq oc 24 (fun g => h2 g) (fun g => ⟨vp_in_nI (by omega) (by decide), nm_e (nm_r (nI_1 oc) (nm_r (nI_1 p) (h1 (by omega))))⟩)
/-- what the six operations of apply give -/
def fo_res (o : Nat) (x y : Int32) : Int32 :=
  if o = 2 then x + y else if o = 3 then x - y else if o = 4 then x * y else if o = 5 then x &&& y else if o = 6 then x ^^^ y else if y ≤ x then 0 else 1
theorem fo_yres {post : Int32 → Prop} {v : SY} {o : Nat} {x y : Int32} (h2 : 2 ≤ o) (h7 : o ≤ 7) (h : post (fo_res o x y)) : wpY_result post v (nI o) x y := by
  obtain ⟨w1, w2, w3, w4, w5, w6, w7, w8, w9, w10, w11, w12⟩ := v
  unfold wpY_result
  have e : o = 2 ∨ o = 3 ∨ o = 4 ∨ o = 5 ∨ o = 6 ∨ o = 7 := by omega
  rcases e with rfl | rfl | rfl | rfl | rfl | rfl
  · exact br_t (by decide) h
  · exact br_f (by decide) (br_t (by decide) h)
  · exact br_f (by decide) (br_f (by decide) (br_t (by decide) h))
  · exact br_f (by decide) (br_f (by decide) (br_f (by decide) (br_t (by decide) h)))
  · exact br_f (by decide) (br_f (by decide) (br_f (by decide) (br_f (by decide) (br_t (by decide) h))))
  · refine br_f (by decide) (br_f (by decide) (br_f (by decide) (br_f (by decide) (br_f (by decide) ?_))))
    by_cases g : y ≤ x
    · refine br_t g ?_
      rw [show fo_res 7 x y = 0 from if_pos g] at h
      exact h
    · refine br_f g ?_
      rw [show fo_res 7 x y = 1 from if_neg g] at h
      exact h
theorem fo_xcomp0 {post : Int32 → Prop} {i1 i2 i3 i4 i5 : Int32} (hp : p < 20) (ho : op p = 0) (h : post (a p)) : wpX_computed post (i5, i1, i2, nI p, i3, i4, op, d, a, b, l, st, nm, ot) := by
  unfold wpX_computed
  have e : (nI p).toNatClampNeg = p := nI_clamp (by omega)
  have hi : vp_in (nI p) 20 := vp_in_nI hp (by decide)
  simp only [e]
  exact ⟨hi, nm_e ⟨hi, br_t ho h⟩⟩
theorem fo_xcomp {post : Int32 → Prop} {i1 i2 i3 i4 i5 : Int32} {o j m : Nat} (hp : p < 20) (ho : op p = nI o) (h1 : 1 ≤ o) (h7 : o ≤ 7) (ha : a p = nI j) (hj : j < 8) (hb : b p = nI m) (hm : m < 8)
    (h : post (if o = 1 then nm j else fo_res o (nm j) (nm m))) : wpX_computed post (i5, i1, i2, nI p, i3, i4, op, d, a, b, l, st, nm, ot) := by
  unfold wpX_computed
  have e : (nI p).toNatClampNeg = p := nI_clamp (by omega)
  have ej : (nI j).toNatClampNeg = j := nI_clamp (by omega)
  have em : (nI m).toNatClampNeg = m := nI_clamp (by omega)
  have hi : vp_in (nI p) 20 := vp_in_nI hp (by decide)
  have hij : vp_in (nI j) 8 := vp_in_nI hj (by decide)
  have him : vp_in (nI m) 8 := vp_in_nI hm (by decide)
  have hn0 : ¬ nI o = 0 := nI_ne0 (by omega) (by omega)
  simp only [e, ha, hb, ho, em]
  refine ⟨hi, nm_e ⟨hi, br_f hn0 ⟨hij, nm_r (congrArg nm ej) ⟨hi, him, nm_e ⟨hi, nm_e ?_⟩⟩⟩⟩⟩
  have e : o = 1 ∨ o = 2 ∨ o = 3 ∨ o = 4 ∨ o = 5 ∨ o = 6 ∨ o = 7 := by omega
  rcases e with rfl | rfl | rfl | rfl | rfl | rfl | rfl
  · exact br_t (by decide) h
  · exact br_f (by decide) (br_f (by decide) (br_t (by decide) h))
  · exact br_f (by decide) (br_f (by decide) (br_f (by decide) (br_t (by decide) h)))
  · exact br_f (by decide) (br_f (by decide) (br_f (by decide) (br_f (by decide) (br_t (by decide) h))))
  · exact br_f (by decide) (br_f (by decide) (br_f (by decide) (br_f (by decide) (br_f (by decide) (br_t (by decide) h)))))
  · exact br_f (by decide) (br_f (by decide) (br_f (by decide) (br_f (by decide) (br_f (by decide) (br_f (by decide) (br_t (by decide) h))))))
  · refine br_f (by decide) (br_f (by decide) (br_f (by decide) (br_f (by decide) (br_f (by decide) (br_f (by decide) (br_f (by decide) (br_t (by decide) ?_)))))))
    by_cases g : nm m ≤ nm j
    · refine br_t g ?_
      rw [if_neg (by decide), show fo_res 7 (nm j) (nm m) = 0 from if_pos g] at h
      exact h
    · refine br_f g ?_
      rw [if_neg (by decide), show fo_res 7 (nm j) (nm m) = 1 from if_neg g] at h
      exact h
end
