theorem pb_stored (qc : Int32) (wc : Nat) (nu : Int32) (st le cl ki fi se wo : Nat → Int32) (x : Int32) : ∃ r : Int32, (r = 0 ∨ (¬ r = 0 ∧ ∃ q : Nat, q < 12 ∧ x = nI q ∧ ¬ st q = 0)) ∧ (∀ post : Int32 → Prop, post r → wpX_isStored post (qc, nI wc, nu, st, le, cl, ki, fi, se, wo) x) ∧ (∀ post : Int32 → Prop, post r → wpY_isQuery post (nI wc, nu, st, le, cl, ki, fi, se, wo) x) := by
  by_cases h0 : x < 0
  · exact ⟨0, Or.inl rfl, fun _ hp => br_t h0 hp, fun _ hp => br_t h0 hp⟩
  · by_cases h12 : 12 ≤ x
    · exact ⟨0, Or.inl rfl, fun _ hp => br_f h0 (br_t h12 hp), fun _ hp => br_f h0 (br_t h12 hp)⟩
    · obtain ⟨q, hq, rfl⟩ : ∃ q : Nat, q < 12 ∧ x = nI q := by
        rcases pa_ix x with h | h | h
        · exact absurd h h0
        · exact absurd h.2 h12
        · exact h
      have hi := pa_in12 hq
      by_cases z : st (nI q).toNatClampNeg = 0
      · exact ⟨0, Or.inl rfl, fun _ hp => br_f h0 (br_f h12 ⟨hi, br_t z hp⟩), fun _ hp => br_f h0 (br_f h12 ⟨hi, br_t z hp⟩)⟩
      · refine ⟨1, Or.inr ⟨by decide, q, hq, rfl, ?_⟩, fun _ hp => br_f h0 (br_f h12 ⟨hi, br_f z hp⟩), fun _ hp => br_f h0 (br_f h12 ⟨hi, br_f z hp⟩)⟩
        rw [nI_clamp (by omega)] at z
        exact z
theorem pb_term (qc : Int32) (wc : Nat) (nu : Int32) (st le cl ki fi se wo : Nat → Int32) (x : Int32) : ∃ r : Int32, (∀ post : Int32 → Prop, post r → wpX_isTerm post x) ∧ (∀ post : Int32 → Prop, post r → wpY_isTerm post (nI wc, nu, st, le, cl, ki, fi, se, wo) x) := by
  by_cases h0 : x < 0
  · exact ⟨0, fun _ hp => br_t h0 hp, fun _ hp => br_t h0 hp⟩
  · by_cases h24 : 24 ≤ x
    · exact ⟨0, fun _ hp => br_f h0 (br_t h24 hp), fun _ hp => br_f h0 (br_t h24 hp)⟩
    · exact ⟨1, fun _ hp => br_f h0 (br_f h24 hp), fun _ hp => br_f h0 (br_f h24 hp)⟩
theorem pb_score_l (qc : Int32) (wc : Nat) (nu : Int32) (st le cl ki fi se wo : Nat → Int32) (hw : wc ≤ 16) (q c : Nat) (hq : q < 12) (h6 : c ≤ 6) (e : cl (nI q).toNatClampNeg = nI c) : ∀ (d k : Nat) (a : Int32), k + d = c → ∃ r : Int32, (∀ post : Int32 → Prop, post r → wX_scoreOf_10 post (nI q) (nI (q * 6)) qc (nI wc) nu st le cl ki fi se wo (d + 1) a (nI k)) ∧ (∀ post : Int32 → Prop, post r → wY_scoreOf_7 post (nI q) (nI wc) nu st le cl ki fi se wo (d + 1) a (nI (q * 6 + k))) := by
  have hi := pa_in12 hq
  intro d
  induction d with
  | zero =>
    intro k a hk
    have hx : cl (nI q).toNatClampNeg ≤ nI k := by rw [e]; exact nI_le (by omega) (by omega)
    have hy : nI q * 6 + cl (nI q).toNatClampNeg ≤ nI (q * 6 + k) := by rw [e, pa_m6, nI_add]; exact nI_le (by omega) (by omega)
    exact ⟨a, fun _ hp => ⟨hi, br_t hx hp⟩, fun _ hp => ⟨hi, br_t hy hp⟩⟩
  | succ d ih =>
    intro k a hk
    have hx : ¬ cl (nI q).toNatClampNeg ≤ nI k := by rw [e]; exact nI_ge (by omega) (by omega)
    have hy : ¬ nI q * 6 + cl (nI q).toNatClampNeg ≤ nI (q * 6 + k) := by rw [e, pa_m6, nI_add]; exact nI_ge (by omega) (by omega)
    have eS : nI (q * 6) + nI k = nI (q * 6 + k) := nI_add _ _
    have iy : vp_in (nI (q * 6 + k)) 72 := vp_in_nI (by omega) (by omega)
    have ix : vp_in (nI (q * 6) + nI k) 72 := by rw [eS]; exact iy
    have ek : ki (nI (q * 6) + nI k).toNatClampNeg = ki (nI (q * 6 + k)).toNatClampNeg := by rw [eS]
    have e1 : nI (q * 6 + k) + 1 = nI (q * 6 + (k + 1)) := nI_1 _
    obtain ⟨s, tX', tY⟩ := pb_times qc wc nu st le cl ki fi se wo hw (fi (nI (q * 6 + k)).toNatClampNeg)
    have tX : ∀ post : Int32 → Prop, post s → wpX_timesInDocument post (qc, nI wc, nu, st, le, cl, ki, fi, se, wo) (fi (nI (q * 6) + nI k).toNatClampNeg) := by rw [eS]; exact tX'
    by_cases k0 : ki (nI (q * 6 + k)).toNatClampNeg = 0
    · have k3 : ¬ ki (nI (q * 6 + k)).toNatClampNeg = 3 := by rw [k0]; decide
      obtain ⟨r, hX, hY⟩ := ih (k + 1) (a + s) (by omega)
      exact ⟨r, fun post hp => ⟨hi, br_f hx ⟨ix, nm_r ek (br_t k0 ⟨ix, tX _ (nm_e (nm_r (nI_1 k) (hX post hp)))⟩)⟩⟩, fun post hp => ⟨hi, br_f hy ⟨iy, br_t k0 ⟨iy, tY _ (nm_e ⟨iy, br_f k3 (nm_r e1 (hY post hp))⟩)⟩⟩⟩⟩
    · by_cases k2 : ki (nI (q * 6 + k)).toNatClampNeg = 2
      · have k3 : ¬ ki (nI (q * 6 + k)).toNatClampNeg = 3 := by rw [k2]; decide
        obtain ⟨r, hX, hY⟩ := ih (k + 1) (a + s) (by omega)
        exact ⟨r, fun post hp => ⟨hi, br_f hx ⟨ix, nm_r ek (br_f k0 (br_t k2 ⟨ix, tX _ (nm_e (nm_r (nI_1 k) (hX post hp)))⟩))⟩⟩, fun post hp => ⟨hi, br_f hy ⟨iy, br_f k0 ⟨iy, br_t k2 ⟨iy, tY _ (nm_e ⟨iy, br_f k3 (nm_r e1 (hY post hp))⟩)⟩⟩⟩⟩⟩
      · by_cases k3 : ki (nI (q * 6 + k)).toNatClampNeg = 3
        · obtain ⟨r, hX, hY⟩ := ih (k + 1) (a + 5) (by omega)
          exact ⟨r, fun post hp => ⟨hi, br_f hx ⟨ix, nm_r ek (br_f k0 (br_f k2 (br_t k3 (nm_e (nm_r (nI_1 k) (hX post hp))))))⟩⟩, fun post hp => ⟨hi, br_f hy ⟨iy, br_f k0 ⟨iy, br_f k2 ⟨iy, br_t k3 (nm_e (nm_r e1 (hY post hp)))⟩⟩⟩⟩⟩
        · obtain ⟨r, hX, hY⟩ := ih (k + 1) a (by omega)
          exact ⟨r, fun post hp => ⟨hi, br_f hx ⟨ix, nm_r ek (br_f k0 (br_f k2 (br_f k3 (nm_r (nI_1 k) (hX post hp)))))⟩⟩, fun post hp => ⟨hi, br_f hy ⟨iy, br_f k0 ⟨iy, br_f k2 ⟨iy, br_f k3 (nm_r e1 (hY post hp))⟩⟩⟩⟩⟩
theorem pb_score (qc : Int32) (wc : Nat) (nu : Int32) (st le cl ki fi se wo : Nat → Int32) (hw : wc ≤ 16) (hc : ∀ q, q < 12 → ∃ c : Nat, c ≤ 6 ∧ cl q = nI c) (q : Nat) (hq : q < 12) : ∃ r : Int32, (∀ post : Int32 → Prop, post r → wpX_scoreOf post (qc, nI wc, nu, st, le, cl, ki, fi, se, wo) (nI q)) ∧ (∀ post : Int32 → Prop, post r → wpY_scoreOf post (nI wc, nu, st, le, cl, ki, fi, se, wo) (nI q)) := by
  obtain ⟨c, h6, e⟩ := hc q hq
  obtain ⟨r, hX, hY⟩ := pb_score_l qc wc nu st le cl ki fi se wo hw q c hq h6 (by rw [nI_clamp (by omega)]; exact e) c 0 0 (by omega)
  exact ⟨r, fun post hp => nm_r (pa_m6 q) ⟨_, hX post hp⟩, fun post hp => nm_r (pa_m6 q) ⟨_, hY post hp⟩⟩
theorem pb_match_l (qc : Int32) (wc : Nat) (nu : Int32) (st le cl ki fi se wo : Nat → Int32) (hw : wc ≤ 16) (q c : Nat) (hq : q < 12) (h6 : c ≤ 6) (e : cl (nI q).toNatClampNeg = nI c) : ∀ (d k : Nat) (a : Int32), k + d = c → ∃ r : Int32, (r = 0 ∨ r = 1) ∧ (∀ post : Int32 → Prop, post r → wX_isMatch_20 post (nI q) (nI (q * 6)) qc (nI wc) nu st le cl ki fi se wo (d + 1) a (nI k)) ∧ (∀ post : Int32 → Prop, post r → wY_matchesQuery_17 post (nI q) (nI wc) nu st le cl ki fi se wo (d + 1) a (nI (q * 6 + k))) := by
  have hi := pa_in12 hq
  intro d
  induction d with
  | zero =>
    intro k a hk
    have hx : cl (nI q).toNatClampNeg ≤ nI k := by rw [e]; exact nI_le (by omega) (by omega)
    have hy : nI q * 6 + cl (nI q).toNatClampNeg ≤ nI (q * 6 + k) := by rw [e, pa_m6, nI_add]; exact nI_le (by omega) (by omega)
    by_cases g : a < le (nI q).toNatClampNeg
    · exact ⟨0, Or.inl rfl, fun _ hp => ⟨hi, br_t hx ⟨hi, br_t g hp⟩⟩, fun _ hp => ⟨hi, br_t hy ⟨hi, br_t g hp⟩⟩⟩
    · exact ⟨1, Or.inr rfl, fun _ hp => ⟨hi, br_t hx ⟨hi, br_f g hp⟩⟩, fun _ hp => ⟨hi, br_t hy ⟨hi, br_f g hp⟩⟩⟩
  | succ d ih =>
    intro k a hk
    have hx : ¬ cl (nI q).toNatClampNeg ≤ nI k := by rw [e]; exact nI_ge (by omega) (by omega)
    have hy : ¬ nI q * 6 + cl (nI q).toNatClampNeg ≤ nI (q * 6 + k) := by rw [e, pa_m6, nI_add]; exact nI_ge (by omega) (by omega)
    have eS : nI (q * 6) + nI k = nI (q * 6 + k) := nI_add _ _
    have iy : vp_in (nI (q * 6 + k)) 72 := vp_in_nI (by omega) (by omega)
    have ix : vp_in (nI (q * 6) + nI k) 72 := by rw [eS]; exact iy
    have e1 : nI (q * 6 + k) + 1 = nI (q * 6 + (k + 1)) := nI_1 _
    obtain ⟨s, hs, tX', tY⟩ := pb_holds qc wc nu st le cl ki fi se wo hw (q * 6 + k) (by omega)
    have tX : ∀ post : Int32 → Prop, post s → wpX_clauseHolds post (qc, nI wc, nu, st, le, cl, ki, fi, se, wo) (nI (q * 6) + nI k) := by rw [eS]; exact tX'
    by_cases k2 : ki (nI (q * 6 + k)).toNatClampNeg = 2
    · have k2x : ki (nI (q * 6) + nI k).toNatClampNeg = 2 := by rw [eS]; exact k2
      by_cases z : s = 0
      · obtain ⟨r, hr, hX, hY⟩ := ih (k + 1) a (by omega)
        exact ⟨r, hr, fun post hp => ⟨hi, br_f hx (tX _ ⟨ix, br_t k2x (br_t z (nm_r (pa_z a) (nm_r (nI_1 k) (hX post hp))))⟩)⟩, fun post hp => ⟨hi, br_f hy (tY _ ⟨iy, br_t k2 (br_t z (nm_r e1 (hY post hp)))⟩)⟩⟩
      · obtain ⟨r, hr, hX, hY⟩ := ih (k + 1) (a + 1) (by omega)
        exact ⟨r, hr, fun post hp => ⟨hi, br_f hx (tX _ ⟨ix, br_t k2x (br_f z (nm_e (nm_r (nI_1 k) (hX post hp))))⟩)⟩, fun post hp => ⟨hi, br_f hy (tY _ ⟨iy, br_t k2 (br_f z (nm_e (nm_r e1 (hY post hp))))⟩)⟩⟩
    · have k2x : ¬ ki (nI (q * 6) + nI k).toNatClampNeg = 2 := by rw [eS]; exact k2
      by_cases z : s = 0
      · exact ⟨0, Or.inl rfl, fun post hp => ⟨hi, br_f hx (tX _ ⟨ix, br_f k2x (br_t z hp)⟩)⟩, fun post hp => ⟨hi, br_f hy (tY _ ⟨iy, br_f k2 (br_t z hp)⟩)⟩⟩
      · obtain ⟨r, hr, hX, hY⟩ := ih (k + 1) a (by omega)
        exact ⟨r, hr, fun post hp => ⟨hi, br_f hx (tX _ ⟨ix, br_f k2x (br_f z (nm_r (nI_1 k) (hX post hp)))⟩)⟩, fun post hp => ⟨hi, br_f hy (tY _ ⟨iy, br_f k2 (br_f z (nm_r e1 (hY post hp)))⟩)⟩⟩
/-- any number: it is a match, or not: one answer -/
theorem pb_match (qc : Int32) (wc : Nat) (nu : Int32) (st le cl ki fi se wo : Nat → Int32) (hw : wc ≤ 16) (hc : ∀ q, q < 12 → ∃ c : Nat, c ≤ 6 ∧ cl q = nI c) (x : Int32) : ∃ r : Int32, (r = 0 ∨ r = 1) ∧ (∀ post : Int32 → Prop, post r → wpX_isMatch post (qc, nI wc, nu, st, le, cl, ki, fi, se, wo) x) ∧ (∀ post : Int32 → Prop, post r → wpY_matchesQuery post (nI wc, nu, st, le, cl, ki, fi, se, wo) x) := by
  obtain ⟨s, hs, sX, sY⟩ := pb_stored qc wc nu st le cl ki fi se wo x
  rcases hs with z | ⟨z, q, hq, rfl, _⟩
  · refine ⟨0, Or.inl rfl, fun post hp => ?_, fun post hp => ?_⟩
    · unfold wpX_isMatch
      exact sX _ (br_t z hp)
    · unfold wpY_matchesQuery
      exact sY _ (br_t z hp)
  · obtain ⟨c, h6, e⟩ := hc q hq
    obtain ⟨r, hr, hX, hY⟩ := pb_match_l qc wc nu st le cl ki fi se wo hw q c hq h6 (by rw [nI_clamp (by omega)]; exact e) c 0 0 (by omega)
    refine ⟨r, hr, fun post hp => ?_, fun post hp => ?_⟩
    · unfold wpX_isMatch
      exact sX _ (br_f z (nm_r (pa_m6 q) ⟨_, hX post hp⟩))
    · unfold wpY_matchesQuery
      exact sY _ (br_f z (nm_r (pa_m6 q) ⟨_, hY post hp⟩))
