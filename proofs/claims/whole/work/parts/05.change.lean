theorem pc_upd {cl : Nat → Int32} {p c : Nat} {x : Int32} (hc : ∀ q, q < 12 → ∃ c : Nat, c ≤ 6 ∧ cl q = nI c) (h6 : c ≤ 6) (hx : x = nI c) : ∀ q, q < 12 → ∃ c : Nat, c ≤ 6 ∧ upd cl p x q = nI c := by
  intro q hq
  by_cases e : q = p
  · subst e
    exact ⟨c, h6, by rw [pk_us, hx]⟩
  · obtain ⟨c', h6', e'⟩ := hc q hq
    exact ⟨c', h6', by rw [pk_un e, e']⟩
/-- a clause more for a stored query -/
theorem pc_clause (qc : Int32) (wc : Nat) (nu : Int32) (st le cl ki fi se wo : Nat → Int32) (hc : ∀ q, q < 12 → ∃ c : Nat, c ≤ 6 ∧ cl q = nI c) (k a b : Int32) (q : Nat) (hq : q < 12) (s : Int32) (hs : ¬ s = 0) (sX : ∀ post : Int32 → Prop, post s → wpX_isStored post (qc, nI wc, nu, st, le, cl, ki, fi, se, wo) (nI q)) : ∃ (r : Int32) (cl' ki' fi' se' : Nat → Int32), (∀ q, q < 12 → ∃ c : Nat, c ≤ 6 ∧ cl' q = nI c) ∧ (∀ post : Int32 → SX → Prop, post r (qc, nI wc, nu, st, le, cl', ki', fi', se', wo) → wpX_addClause post (qc, nI wc, nu, st, le, cl, ki, fi, se, wo) (nI q) k a b) ∧ (∀ post : Int32 → SY → Prop, post r (nI wc, nu, st, le, cl', ki', fi', se', wo) → wY_add_35 post (nI q) k a b (nI wc) nu st le cl ki fi se wo) := by
  have hi := pa_in12 hq
  obtain ⟨c, h6, e⟩ := hc q hq
  have e' : cl (nI q).toNatClampNeg = nI c := by rw [nI_clamp (by omega)]; exact e
  by_cases g : c = 6
  · have lt : ¬ cl (nI q).toNatClampNeg < 6 := by rw [e', g, pa_6]; decide
    have eq : cl (nI q).toNatClampNeg = 6 := by rw [e', g, pa_6]
    refine ⟨-3, cl, ki, fi, se, hc, fun post hp => ?_, fun post hp => ⟨hi, br_t eq hp⟩⟩
    unfold wpX_addClause
    exact sX _ (br_f hs ⟨hi, br_f lt hp⟩)
  · have lt : cl (nI q).toNatClampNeg < 6 := by rw [e', ← pa_6]; exact nI_lt (by omega) (by omega)
    have eq : ¬ cl (nI q).toNatClampNeg = 6 := by rw [e', ← pa_6, nI_eq (by omega) (by omega)]; exact g
    have ea : nI q * 6 + cl (nI q).toNatClampNeg = nI (q * 6 + c) := by rw [e', pa_m6, nI_add]
    have i7 : vp_in (nI (q * 6 + c)) 72 := vp_in_nI (by omega) (by omega)
    refine ⟨upd cl (nI q).toNatClampNeg (cl (nI q).toNatClampNeg + 1) (nI q).toNatClampNeg, upd cl (nI q).toNatClampNeg (cl (nI q).toNatClampNeg + 1), upd ki (nI (q * 6 + c)).toNatClampNeg k, upd fi (nI (q * 6 + c)).toNatClampNeg a, upd se (nI (q * 6 + c)).toNatClampNeg b, ?_, fun post hp => ?_, fun post hp => ?_⟩
    · exact pc_upd hc (c := c + 1) (by omega) (by rw [e', nI_1])
    · unfold wpX_addClause
      exact sX _ (br_f hs ⟨hi, br_t lt ⟨hi, nm_r ea ⟨i7, nm_e ⟨i7, nm_e ⟨i7, nm_e ⟨hi, hi, nm_e ⟨hi, hp⟩⟩⟩⟩⟩⟩⟩)
    · exact ⟨hi, br_f eq ⟨hi, nm_r ea ⟨i7, nm_e ⟨i7, nm_e ⟨i7, nm_e ⟨hi, hi, nm_e ⟨hi, hp⟩⟩⟩⟩⟩⟩⟩
theorem pc_term (qc : Int32) (wc : Nat) (nu : Int32) (st le cl ki fi se wo : Nat → Int32) (hc : ∀ q, q < 12 → ∃ c : Nat, c ≤ 6 ∧ cl q = nI c) (k : Int32) (hk : ¬ 3 < k) (x a b : Int32) : ∃ (r : Int32) (cl' ki' fi' se' : Nat → Int32), (∀ q, q < 12 → ∃ c : Nat, c ≤ 6 ∧ cl' q = nI c) ∧ (∀ post : Int32 → SX → Prop, post r (qc, nI wc, nu, st, le, cl', ki', fi', se', wo) → wpX_addTermClause post (qc, nI wc, nu, st, le, cl, ki, fi, se, wo) x k a b) ∧ (∀ post : Int32 → SY → Prop, post r (nI wc, nu, st, le, cl', ki', fi', se', wo) → wpY_add post (nI wc, nu, st, le, cl, ki, fi, se, wo) x k a b) := by
  obtain ⟨s, hs, sX, sY⟩ := pb_stored qc wc nu st le cl ki fi se wo x
  rcases hs with z | ⟨z, q, hq, rfl, _⟩
  · refine ⟨-1, cl, ki, fi, se, hc, fun post hp => ?_, fun post hp => ?_⟩
    · unfold wpX_addTermClause
      exact sX _ (br_t z hp)
    · unfold wpY_add
      exact sY _ (br_t z hp)
  · obtain ⟨t, tX, tY⟩ := pb_term qc wc nu st le cl ki fi se wo a
    obtain ⟨v, vX, vY⟩ := pb_term qc wc nu st le cl ki fi se wo b
    by_cases zt : t = 0
    · refine ⟨-2, cl, ki, fi, se, hc, fun post hp => ?_, fun post hp => ?_⟩
      · unfold wpX_addTermClause
        exact sX _ (br_f z (tX _ (br_t zt hp)))
      · unfold wpY_add
        exact sY _ (br_f z (br_f hk (tY _ (br_t zt hp))))
    · by_cases zv : v = 0
      · refine ⟨-2, cl, ki, fi, se, hc, fun post hp => ?_, fun post hp => ?_⟩
        · unfold wpX_addTermClause
          exact sX _ (br_f z (tX _ (br_f zt (vX _ (br_t zv hp)))))
        · unfold wpY_add
          exact sY _ (br_f z (br_f hk (tY _ (br_f zt (vY _ (br_t zv hp))))))
      · obtain ⟨r, cl', ki', fi', se', hc', cX, cY⟩ := pc_clause qc wc nu st le cl ki fi se wo hc k a b q hq s z sX
        refine ⟨r, cl', ki', fi', se', hc', fun post hp => ?_, fun post hp => ?_⟩
        · unfold wpX_addTermClause
          exact sX _ (br_f z (tX _ (br_f zt (vX _ (br_f zv (cX _ hp))))))
        · unfold wpY_add
          exact sY _ (br_f z (br_f hk (tY _ (br_f zt (vY _ (br_f zv (cY _ hp)))))))
theorem pc_range (qc : Int32) (wc : Nat) (nu : Int32) (st le cl ki fi se wo : Nat → Int32) (hc : ∀ q, q < 12 → ∃ c : Nat, c ≤ 6 ∧ cl q = nI c) (x a b : Int32) : ∃ (r : Int32) (cl' ki' fi' se' : Nat → Int32), (∀ q, q < 12 → ∃ c : Nat, c ≤ 6 ∧ cl' q = nI c) ∧ (∀ post : Int32 → SX → Prop, post r (qc, nI wc, nu, st, le, cl', ki', fi', se', wo) → wpX_addClause post (qc, nI wc, nu, st, le, cl, ki, fi, se, wo) x 4 a b) ∧ (∀ post : Int32 → SY → Prop, post r (nI wc, nu, st, le, cl', ki', fi', se', wo) → wpY_add post (nI wc, nu, st, le, cl, ki, fi, se, wo) x 4 a b) := by
  obtain ⟨s, hs, sX, sY⟩ := pb_stored qc wc nu st le cl ki fi se wo x
  rcases hs with z | ⟨z, q, hq, rfl, _⟩
  · refine ⟨-1, cl, ki, fi, se, hc, fun post hp => ?_, fun post hp => ?_⟩
    · unfold wpX_addClause
      exact sX _ (br_t z hp)
    · unfold wpY_add
      exact sY _ (br_t z hp)
  · obtain ⟨r, cl', ki', fi', se', hc', cX, cY⟩ := pc_clause qc wc nu st le cl ki fi se wo hc 4 a b q hq s z sX
    refine ⟨r, cl', ki', fi', se', hc', cX, fun post hp => ?_⟩
    unfold wpY_add
    exact sY _ (br_f z (br_t (by decide) (cY _ hp)))
theorem pc_left (wc : Nat) (nu : Int32) (st le cl ki fi se wo : Nat → Int32) : ∀ d j : Nat, j + d = 12 → ∀ post : Int32 → SY → Prop, post (nI (pa_ct st 12)) (nI wc, nu, st, le, cl, ki, fi, se, wo) → wY_remove_21 post (nI wc) nu st le cl ki fi se wo (d + 1) (nI (pa_ct st j)) (nI j) := by
  intro d
  induction d with
  | zero =>
    intro j hj post hp
    obtain rfl : j = 12 := by omega
    exact br_t (pb_le12 rfl) hp
  | succ d ih =>
    intro j hj post hp
    have h := pb_nle12 (j := j) (by omega)
    have hi := pa_in12 (q := j) (by omega)
    have i := ih (j + 1) (by omega) post hp
    have ej : (nI j).toNatClampNeg = j := nI_clamp (by omega)
    by_cases z : st (nI j).toNatClampNeg = 0
    · have e : pa_ct st (j + 1) = pa_ct st j := by rw [pa_ct_s, pa_bz (by rw [ej] at z; exact z), Nat.add_zero]
      rw [e] at i
      exact br_f h ⟨hi, br_t z (nm_r (nI_1 j) i)⟩
    · have e : pa_ct st (j + 1) = pa_ct st j + 1 := by rw [pa_ct_s, pa_b1 (by rw [ej] at z; exact z)]
      rw [e] at i
      exact br_f h ⟨hi, br_f z (nm_r (nI_1 _) (nm_r (nI_1 j) i))⟩
theorem pc_create_l (wc : Nat) (nu : Int32) (st le cl ki fi se wo : Nat → Int32) (hc : ∀ q, q < 12 → ∃ c : Nat, c ≤ 6 ∧ cl q = nI c) (x : Int32) : ∀ d j : Nat, j + d = 12 → ∃ (r : Int32) (st' le' cl' : Nat → Int32), (∀ q, q < 12 → ∃ c : Nat, c ≤ 6 ∧ cl' q = nI c) ∧ (∀ post : Int32 → SX → Prop, post r (nI (pa_ct st' 12), nI wc, nu, st', le', cl', ki, fi, se, wo) → wX_create_15 post x (nI (pa_ct st 12)) (nI wc) nu st le cl ki fi se wo (d + 1) (nI j)) ∧ (∀ post : Int32 → SY → Prop, post r (nI wc, nu, st', le', cl', ki, fi, se, wo) → wY_create_15 post x (nI wc) nu st le cl ki fi se wo (d + 1) (nI j)) := by
  intro d
  induction d with
  | zero =>
    intro j hj
    have h := pb_le12 (j := j) (by omega)
    exact ⟨-3, st, le, cl, hc, fun _ hp => br_t h hp, fun _ hp => br_t h hp⟩
  | succ d ih =>
    intro j hj
    have h := pb_nle12 (j := j) (by omega)
    have hi := pa_in12 (q := j) (by omega)
    have ej : (nI j).toNatClampNeg = j := nI_clamp (by omega)
    by_cases z : st (nI j).toNatClampNeg = 0
    · have e1 : upd st (nI j).toNatClampNeg (vp_nar .boolean 1) = upd st j 1 := by rw [ej, pa_v1]
      have e2 : nI (pa_ct st 12) + 1 = nI (pa_ct (upd st j 1) 12) := by
        have q := pa_ct_hi (st := st) (q := j) (x := 1) 12 (by omega)
        rw [pa_bz (by rw [ej] at z; exact z), pa_b1 (x := 1) (by decide)] at q
        rw [nI_1, ← q, Nat.add_zero]
      refine ⟨nI j, upd st j 1, upd le (nI j).toNatClampNeg x, upd cl (nI j).toNatClampNeg 0, pc_upd hc (c := 0) (by omega) rfl, fun post hp => ?_, fun post hp => ?_⟩
      · exact br_f h ⟨hi, br_t z ⟨hi, nm_r e1 ⟨hi, nm_e ⟨hi, nm_e (nm_r e2 hp)⟩⟩⟩⟩
      · exact br_f h ⟨hi, br_t z ⟨hi, nm_r e1 ⟨hi, nm_e ⟨hi, nm_e hp⟩⟩⟩⟩
    · obtain ⟨r, st', le', cl', hc', hX, hY⟩ := ih (j + 1) (by omega)
      exact ⟨r, st', le', cl', hc', fun post hp => br_f h ⟨hi, br_f z (nm_r (nI_1 j) (hX post hp))⟩, fun post hp => br_f h ⟨hi, br_f z (nm_r (nI_1 j) (hY post hp))⟩⟩
