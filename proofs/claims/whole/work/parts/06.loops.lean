section
variable {c : Nat} {op d a b l f s t st : Nat → Int32}
theorem fo_run (hc : c ≤ 20) (hP : fo_Prog op d a b l f s t) : ∀ (n sp oc bc p : Nat) (nm ot : Nat → Int32), 820 ≤ 20 * bc + p + n → sp ≤ 20 * bc + p → p ≤ 20 → bc ≤ 40 → oc ≤ 24 →
    ∃ (oc' bc' : Nat) (p' rn' he' : Int32) (nm' ot' : Nat → Int32), oc' ≤ 24 ∧
      (∀ post : SX → Prop, post (nI c, nI oc', nI bc', p', rn', he', op, d, a, b, l, st, nm', ot') → wX_run_6 post (n + 2) (nI sp) (nI c) (nI oc) (nI bc) (nI p) 1 0 op d a b l st nm ot) ∧
      (∀ post : SY → Prop, post (nI c, nI oc', nI bc', p', he', op, f, s, t, st, nm', ot') → wY_run_47 post (n + 2) (nI c) (nI oc) (nI bc) (nI p) (-4) op f s t st nm ot) := by
  intro n
  induction n with
  | zero =>
    intro sp oc bc p nm ot h1 h2 h3 h4 h5
    have hcp : c ≤ p := by omega
    refine ⟨oc, bc, nI p, 1, 0, nm, ot, h5, fun post h => ?_, fun post h => ?_⟩
    · exact br_c (fun _ => h) (fun _ => br_f fo_10 (br_t (nI_le hcp (by omega)) h))
    · exact br_t rfl (br_f (nI_nlt hcp (by omega)) (br_f (by decide) h))
  | succ n ih =>
    intro sp oc bc p nm ot h1 h2 h3 h4 h5
    by_cases hcp : c ≤ p
    · refine ⟨oc, bc, nI p, 1, 0, nm, ot, h5, fun post h => ?_, fun post h => ?_⟩
      · exact br_c (fun _ => h) (fun _ => br_f fo_10 (br_t (nI_le hcp (by omega)) h))
      · exact br_t rfl (br_f (nI_nlt hcp (by omega)) (br_f (by decide) h))
    · have hs : ¬ (820 : Int32) ≤ nI sp := nI_ge (b := 820) (by omega) (by decide)
      have hg : ¬ nI c ≤ nI p := nI_ge (by omega) (by omega)
      have hl : nI p < nI c := nI_lt (by omega) (by omega)
      obtain ⟨oc1, bc1, p1, rn1, he1, en1, nm1, ot1, hw, ho1, hX, hY⟩ := fo_stp (c := c) (st := st) (nm := nm) (ot := ot) hP (p := p) (by omega) h4 h5
      rcases hw with ⟨rfl, rfl, rfl, g1, g2, g3⟩ | ⟨rfl, rfl, g1⟩
      · obtain ⟨oc2, bc2, p2, rn2, he2, nm2, ot2, ho2, iX, iY⟩ := ih (sp + 1) oc1 bc1 p1 nm1 ot1 (by omega) (by omega) g2 g3 ho1
        refine ⟨oc2, bc2, p2, rn2, he2, nm2, ot2, ho2, fun post h => ?_, fun post h => ?_⟩
        · exact br_f hs (br_f fo_10 (br_f hg (hX _ (nm_r (nI_1 sp) (iX post h)))))
        · exact br_t rfl (br_t hl (hY _ (iY post h)))
      · refine ⟨oc1, bc1, nI p1, 0, en1, nm1, ot1, ho1, fun post h => ?_, fun post h => ?_⟩
        · exact br_f hs (br_f fo_10 (br_f hg (hX _ (nm_e (br_c (fun _ => h) (fun _ => br_t rfl h))))))
        · exact br_t rfl (br_t hl (hY _ (br_f g1 h)))
theorem fo_xbeg {post : SX → Prop} {oc bc pp rn he : Int32} {nm ot : Nat → Int32} (h : post (nI c, 0, 0, 0, 1, 0, op, d, a, b, l, st, fo_cp nm st 8, ot)) :
    ∀ n i : Nat, i + n = 8 → wX_beginRun_2 post (nI c) oc bc pp rn he (n + 1) (nI i) op d a b l st (fo_cp nm st i) ot := by
  intro n
  induction n with
  | zero =>
    intro i hi
    obtain rfl : i = 8 := by omega
    exact br_t (by decide) h
  | succ n ih =>
    intro i hi
    have e : (nI i).toNatClampNeg = i := nI_clamp (by omega)
    have hin : vp_in (nI i) 8 := vp_in_nI (by omega) (by decide)
    refine br_f (nI_ge (b := 8) (by omega) (by decide)) ⟨hin, hin, nm_r (e' := fo_cp nm st (i + 1)) (by rw [e]; rfl) (nm_r (nI_1 i) (ih (i + 1) (by omega)))⟩
theorem fo_ybeg {post : SY → Prop} {mn bk pl en : Int32} {nm ot : Nat → Int32} (h : ∃ n : Nat, wY_run_47 post n (nI c) 0 0 0 (-4) op f s t st (fo_cp nm st 8) ot) :
    ∀ n i : Nat, i + n = 8 → wY_run_2 post (nI c) mn bk pl en (n + 1) (nI i) op f s t st (fo_cp nm st i) ot := by
  intro n
  induction n with
  | zero =>
    intro i hi
    obtain rfl : i = 8 := by omega
    exact br_t (by decide) h
  | succ n ih =>
    intro i hi
    have e : (nI i).toNatClampNeg = i := nI_clamp (by omega)
    have hin : vp_in (nI i) 8 := vp_in_nI (by omega) (by decide)
    refine br_f (nI_ge (b := 8) (by omega) (by decide)) ⟨hin, hin, nm_r (e' := fo_cp nm st (i + 1)) (by rw [e]; rfl) (nm_r (nI_1 i) (ih (i + 1) (by omega)))⟩
/-- the whole run, both sides, from states that agree -/
theorem fo_all (hc : c ≤ 20) (hP : fo_Prog op d a b l f s t) (oc bc pp rn he mn bk pl en : Int32) (nm ot : Nat → Int32) :
    ∃ (oc' bc' : Nat) (p' rn' he' : Int32) (nm' ot' : Nat → Int32), oc' ≤ 24 ∧
      (∀ post : SX → Prop, post (nI c, nI oc', nI bc', p', rn', he', op, d, a, b, l, st, nm', ot') → wpX_run post (nI c, oc, bc, pp, rn, he, op, d, a, b, l, st, nm, ot)) ∧
      (∀ post : SY → Prop, post (nI c, nI oc', nI bc', p', he', op, f, s, t, st, nm', ot') → wpY_run post (nI c, mn, bk, pl, en, op, f, s, t, st, nm, ot)) := by
  obtain ⟨oc2, bc2, p2, rn2, he2, nm2, ot2, ho2, iX, iY⟩ := fo_run (st := st) hc hP 820 0 0 0 0 (fo_cp nm st 8) ot (by omega) (by omega) (by omega) (by omega) (by omega)
  refine ⟨oc2, bc2, p2, rn2, he2, nm2, ot2, ho2, fun post h => ?_, fun post h => ?_⟩
  · unfold wpX_run
    exact ⟨9, fo_xbeg ⟨822, iX post h⟩ 8 0 rfl⟩
  · unfold wpY_run
    exact ⟨9, fo_ybeg ⟨822, iY post h⟩ 8 0 rfl⟩
end
section
variable {c oc : Nat} {bc pp rn he mn bk pl en : Int32} {op d a b l f s t st nm ot : Nat → Int32}
theorem fo_dig (ho : oc ≤ 24) : ∀ (n i : Nat) (x : Int32), i + n = oc → ∃ r : Int32,
      (∀ post : Int32 → SX → Prop, post r (nI c, nI oc, bc, pp, rn, he, op, d, a, b, l, st, nm, ot) → wX_digest_8 post (nI c) (nI oc) bc pp rn he op d a b l st nm ot (n + 1) x (nI i)) ∧
      (∀ post : Int32 → SY → Prop, post r (nI c, nI oc, bk, pl, en, op, f, s, t, st, nm, ot) → wY_digest_8 post (nI c) (nI oc) bk pl en op f s t st nm ot (n + 1) x (nI i)) := by
  intro n
  induction n with
  | zero =>
    intro i x hi
    have h : nI oc ≤ nI i := nI_le (by omega) (by omega)
    exact ⟨x, fun post q => br_t h q, fun post q => br_t h q⟩
  | succ n ih =>
    intro i x hi
    have h : ¬ nI oc ≤ nI i := nI_ge (by omega) (by omega)
    have hin : vp_in (nI i) 24 := vp_in_nI (by omega) (by decide)
    obtain ⟨r, hX, hY⟩ := ih (i + 1) (x + ((nI i + 1) * ot (nI i).toNatClampNeg)) (by omega)
    exact ⟨r, fun post q => br_f h ⟨hin, nm_e (nm_r (nI_1 i) (hX post q))⟩, fun post q => br_f h ⟨hin, nm_e (nm_r (nI_1 i) (hY post q))⟩⟩
/-- none of the outputs from i up to k is the k-th -/
def fo_fst (ot : Nat → Int32) (i k : Nat) : Prop := ∀ j : Nat, i ≤ j → j < k → ¬ ot j = ot k
theorem fo_fst_s {i k : Nat} (hk : i < k) (h : ¬ ot i = ot k) : fo_fst ot i k ↔ fo_fst ot (i + 1) k := by
  constructor
  · exact fun q j h1 h2 => q j (by omega) h2
  · intro q j h1 h2
    by_cases e : j = i
    · rw [e]
      exact h
    · exact q j (by omega) h2
theorem fo_xfst {post : Int32 → Prop} {x : Int32} {k : Nat} (hk : k < 24) : ∀ n i : Nat, i + n = k → (fo_fst ot i k → post 1) → (¬ fo_fst ot i k → post 0) → wX_isFirstOfItsKind_2 post (nI k) (nI c) x bc pp rn he op d a b l st nm ot (n + 1) (nI i) := by
  intro n
  induction n with
  | zero =>
    intro i hi h1 h0
    exact br_t (nI_le (by omega) (by omega)) (h1 (fun j g1 g2 => absurd g2 (by omega)))
  | succ n ih =>
    intro i hi h1 h0
    have ei : (nI i).toNatClampNeg = i := nI_clamp (by omega)
    have ek : (nI k).toNatClampNeg = k := nI_clamp (by omega)
    have hii : vp_in (nI i) 24 := vp_in_nI (by omega) (by decide)
    have hik : vp_in (nI k) 24 := vp_in_nI (by omega) (by decide)
    refine br_f (nI_ge (by omega) (by omega)) ⟨hii, hik, ?_⟩
    rw [ei, ek]
    refine br_c (fun z => h0 (fun q => q i (by omega) (by omega) z)) (fun z => nm_r (nI_1 i) ?_)
    rw [fo_fst_s (by omega) z] at h1 h0
    exact ih (i + 1) (by omega) h1 h0
theorem fo_yfst {post : Int32 → SY → Prop} {J8 : Int32 → Int32 → Prop} {x1 x : Int32} {k : Nat} (hk : k < 24) : ∀ (n i : Nat) (z : Bool), i + n = k → ((z = true ∧ fo_fst ot i k) → J8 (x1 + 1) (nI (k + 1))) → (¬ (z = true ∧ fo_fst ot i k) → J8 x1 (nI (k + 1))) → wY_kinds_21 post J8 x1 (nI k) (nI c) x bk pl en op f s t st nm ot (n + 1) (if z = true then 1 else 0) (nI i) := by
  intro n
  induction n with
  | zero =>
    intro i z hi h1 h0
    refine br_t (nI_le (by omega) (by omega)) ?_
    have hf : fo_fst ot i k := fun j g1 g2 => absurd g2 (by omega)
    cases z
    · exact br_t rfl (nm_r (nI_1 k) (h0 (fun q => absurd q.1 (by decide))))
    · exact br_f fo_10 (nm_e (nm_r (nI_1 k) (h1 ⟨rfl, hf⟩)))
  | succ n ih =>
    intro i z hi h1 h0
    have ei : (nI i).toNatClampNeg = i := nI_clamp (by omega)
    have ek : (nI k).toNatClampNeg = k := nI_clamp (by omega)
    have hii : vp_in (nI i) 24 := vp_in_nI (by omega) (by decide)
    have hik : vp_in (nI k) 24 := vp_in_nI (by omega) (by decide)
    refine br_f (nI_ge (by omega) (by omega)) ?_
    cases z
    · exact br_t rfl (nm_r (nI_1 i) (ih (i + 1) false (by omega) (fun q => absurd q.1 (by decide)) (fun _ => h0 (fun q => absurd q.1 (by decide)))))
    · refine br_f fo_10 ⟨hii, hik, ?_⟩
      rw [ei, ek]
      refine br_c (fun g => nm_r (nI_1 i) (ih (i + 1) false (by omega) (fun q => absurd q.1 (by decide)) (fun _ => h0 (fun q => q.2 i (by omega) (by omega) g)))) (fun g => nm_r (nI_1 i) ?_)
      rw [fo_fst_s (by omega) g] at h1 h0
      exact ih (i + 1) true (by omega) h1 h0
theorem fo_knd (ho : oc ≤ 24) : ∀ (n i : Nat) (x : Int32), i + n = oc → ∃ r : Int32,
      (∀ post : Int32 → SX → Prop, post r (nI c, nI oc, bc, pp, rn, he, op, d, a, b, l, st, nm, ot) → wX_kinds_8 post (nI c) (nI oc) bc pp rn he op d a b l st nm ot (n + 1) x (nI i)) ∧
      (∀ post : Int32 → SY → Prop, post r (nI c, nI oc, bk, pl, en, op, f, s, t, st, nm, ot) → wY_kinds_8 post (nI c) (nI oc) bk pl en op f s t st nm ot (n + 1) x (nI i)) := by
  intro n
  induction n with
  | zero =>
    intro i x hi
    have h : nI oc ≤ nI i := nI_le (by omega) (by omega)
    exact ⟨x, fun post q => br_t h q, fun post q => br_t h q⟩
  | succ n ih =>
    intro i x hi
    have h : ¬ nI oc ≤ nI i := nI_ge (by omega) (by omega)
    by_cases g : fo_fst ot 0 i
    · obtain ⟨r, hX, hY⟩ := ih (i + 1) (x + 1) (by omega)
      refine ⟨r, fun post q => br_f h ?_, fun post q => br_f h ⟨i + 1, ?_⟩⟩
      · exact ⟨i + 1, fo_xfst (by omega) i 0 (by omega) (fun _ => br_f fo_10 (nm_e (nm_r (nI_1 i) (hX post q)))) (fun z => absurd g z)⟩
      · exact fo_yfst (by omega) i 0 true (by omega) (fun _ => hY post q) (fun z => absurd ⟨rfl, g⟩ z)
    · obtain ⟨r, hX, hY⟩ := ih (i + 1) x (by omega)
      refine ⟨r, fun post q => br_f h ?_, fun post q => br_f h ⟨i + 1, ?_⟩⟩
      · exact ⟨i + 1, fo_xfst (by omega) i 0 (by omega) (fun z => absurd z g) (fun _ => br_t rfl (nm_r (nI_1 i) (hX post q)))⟩
      · exact fo_yfst (by omega) i 0 true (by omega) (fun z => absurd z.2 g) (fun _ => hY post q)
end
