/-- the two sides hold the same arrays in the same places; the class also keeps how many queries are stored -/
def i_Rel (_ : Nat) (u : SX) (v : SY) : Prop := ∃ (wc : Nat) (nu : Int32) (st le cl ki fi se wo : Nat → Int32), u = (nI (pa_ct st 12), nI wc, nu, st, le, cl, ki, fi, se, wo) ∧ v = (nI wc, nu, st, le, cl, ki, fi, se, wo) ∧ wc ≤ 16 ∧ ∀ q, q < 12 → ∃ c : Nat, c ≤ 6 ∧ cl q = nI c
theorem i_up {k : Nat} {u : SX} {v : SY} (h : i_Rel k u v) : i_Rel (k + 4) u v := h
theorem i_vc0 : wpX_init (fun u => wpY_init (fun v => i_Rel 0 u v)) := by
  refine ⟨0, 0, fun _ => 0, fun _ => 0, fun _ => 0, fun _ => 0, fun _ => 0, fun _ => 0, fun _ => 0, ?_, rfl, by omega, fun q _ => ⟨0, by omega, rfl⟩⟩
  rw [pa_ct_z]
  rfl
theorem i_vc_create {k : Nat} {u : SX} {v : SY} (I : i_Rel k u v) (hk : k + 4 ≤ 2048) (v1 : Int32) : wpX_create (fun r u' => wpY_create (fun r' v' => r' = r ∧ i_Rel (k + 4) u' v') v v1) u v1 := by
  have J := I
  obtain ⟨wc, nu, st, le, cl, ki, fi, se, wo, rfl, rfl, hw, hc⟩ := I
  by_cases h0 : v1 < 0
  · exact br_t h0 (br_t h0 ⟨rfl, i_up J⟩)
  · by_cases h6 : v1 ≤ 6
    · obtain ⟨r, st', le', cl', hc', hX, hY⟩ := pc_create_l wc nu st le cl ki fi se wo hc v1 12 0 rfl
      exact br_f h0 (br_t h6 ⟨_, hX _ (br_f h0 (br_t h6 ⟨_, hY _ ⟨rfl, wc, nu, st', le', cl', ki, fi, se, wo, rfl, rfl, hw, hc'⟩⟩))⟩)
    · exact br_f h0 (br_f h6 (br_f h0 (br_f h6 ⟨rfl, i_up J⟩)))
theorem i_vc_must {k : Nat} {u : SX} {v : SY} (I : i_Rel k u v) (hk : k + 4 ≤ 2048) (v1 : Int32) (v2 : Int32) : wpX_must (fun r u' => wpY_must (fun r' v' => r' = r ∧ i_Rel (k + 4) u' v') v v1 v2) u v1 v2 := by
  obtain ⟨wc, nu, st, le, cl, ki, fi, se, wo, rfl, rfl, hw, hc⟩ := I
  obtain ⟨r, cl', ki', fi', se', hc', hX, hY⟩ := pc_term (nI (pa_ct st 12)) wc nu st le cl ki fi se wo hc 0 (by decide) v1 v2 v2
  unfold wpX_must wpY_must
  refine hX _ ?_
  refine hY _ ?_
  exact ⟨rfl, wc, nu, st, le, cl', ki', fi', se', wo, rfl, rfl, hw, hc'⟩
theorem i_vc_not {k : Nat} {u : SX} {v : SY} (I : i_Rel k u v) (hk : k + 4 ≤ 2048) (v1 : Int32) (v2 : Int32) : wpX_not (fun r u' => wpY_not (fun r' v' => r' = r ∧ i_Rel (k + 4) u' v') v v1 v2) u v1 v2 := by
  obtain ⟨wc, nu, st, le, cl, ki, fi, se, wo, rfl, rfl, hw, hc⟩ := I
  obtain ⟨r, cl', ki', fi', se', hc', hX, hY⟩ := pc_term (nI (pa_ct st 12)) wc nu st le cl ki fi se wo hc 1 (by decide) v1 v2 v2
  unfold wpX_not wpY_not
  refine hX _ ?_
  refine hY _ ?_
  exact ⟨rfl, wc, nu, st, le, cl', ki', fi', se', wo, rfl, rfl, hw, hc'⟩
theorem i_vc_should {k : Nat} {u : SX} {v : SY} (I : i_Rel k u v) (hk : k + 4 ≤ 2048) (v1 : Int32) (v2 : Int32) : wpX_should (fun r u' => wpY_should (fun r' v' => r' = r ∧ i_Rel (k + 4) u' v') v v1 v2) u v1 v2 := by
  obtain ⟨wc, nu, st, le, cl, ki, fi, se, wo, rfl, rfl, hw, hc⟩ := I
  obtain ⟨r, cl', ki', fi', se', hc', hX, hY⟩ := pc_term (nI (pa_ct st 12)) wc nu st le cl ki fi se wo hc 2 (by decide) v1 v2 v2
  unfold wpX_should wpY_should
  refine hX _ ?_
  refine hY _ ?_
  exact ⟨rfl, wc, nu, st, le, cl', ki', fi', se', wo, rfl, rfl, hw, hc'⟩
theorem i_vc_phrase {k : Nat} {u : SX} {v : SY} (I : i_Rel k u v) (hk : k + 4 ≤ 2048) (v1 : Int32) (v2 : Int32) (v3 : Int32) : wpX_phrase (fun r u' => wpY_phrase (fun r' v' => r' = r ∧ i_Rel (k + 4) u' v') v v1 v2 v3) u v1 v2 v3 := by
  obtain ⟨wc, nu, st, le, cl, ki, fi, se, wo, rfl, rfl, hw, hc⟩ := I
  obtain ⟨r, cl', ki', fi', se', hc', hX, hY⟩ := pc_term (nI (pa_ct st 12)) wc nu st le cl ki fi se wo hc 3 (by decide) v1 v2 v3
  unfold wpX_phrase wpY_phrase
  refine hX _ ?_
  refine hY _ ?_
  exact ⟨rfl, wc, nu, st, le, cl', ki', fi', se', wo, rfl, rfl, hw, hc'⟩
theorem i_vc_range {k : Nat} {u : SX} {v : SY} (I : i_Rel k u v) (hk : k + 4 ≤ 2048) (v1 : Int32) (v2 : Int32) (v3 : Int32) : wpX_range (fun r u' => wpY_range (fun r' v' => r' = r ∧ i_Rel (k + 4) u' v') v v1 v2 v3) u v1 v2 v3 := by
  obtain ⟨wc, nu, st, le, cl, ki, fi, se, wo, rfl, rfl, hw, hc⟩ := I
  obtain ⟨r, cl', ki', fi', se', hc', hX, hY⟩ := pc_range (nI (pa_ct st 12)) wc nu st le cl ki fi se wo hc v1 v2 v3
  unfold wpX_range wpY_range
  refine hX _ ?_
  refine hY _ ?_
  exact ⟨rfl, wc, nu, st, le, cl', ki', fi', se', wo, rfl, rfl, hw, hc'⟩
theorem i_vc_remove {k : Nat} {u : SX} {v : SY} (I : i_Rel k u v) (hk : k + 4 ≤ 2048) (v1 : Int32) : wpX_remove (fun r u' => wpY_remove (fun r' v' => r' = r ∧ i_Rel (k + 4) u' v') v v1) u v1 := by
  have J := I
  obtain ⟨wc, nu, st, le, cl, ki, fi, se, wo, rfl, rfl, hw, hc⟩ := I
  obtain ⟨s, hs, sX, sY⟩ := pb_stored (nI (pa_ct st 12)) wc nu st le cl ki fi se wo v1
  unfold wpX_remove wpY_remove
  rcases hs with z | ⟨z, q, hq, rfl, hn⟩
  · refine sX _ (br_t z ?_)
    exact sY _ (br_t z ⟨rfl, i_up J⟩)
  · have hi := pa_in12 hq
    have e1 : upd st (nI q).toNatClampNeg (vp_nar .boolean 0) = upd st q 0 := by rw [nI_clamp (by omega), pa_v0]
    have e2 : nI (pa_ct st 12) - 1 = nI (pa_ct (upd st q 0) 12) := by
      have h := pa_ct_hi (st := st) (q := q) (x := 0) 12 hq
      rw [pa_b1 hn, pa_b0] at h
      have h2 : pa_ct st 12 = pa_ct (upd st q 0) 12 + 1 := h.symm
      rw [h2, nI_pred]
    refine sX _ (br_f z ⟨hi, nm_r e1 (nm_r e2 ?_)⟩)
    refine sY _ (br_f z ⟨hi, nm_r e1 ⟨12 + 1, pc_left wc nu (upd st q 0) le cl ki fi se wo 12 0 rfl _ ?_⟩⟩)
    exact ⟨rfl, wc, nu, upd st q 0, le, cl, ki, fi, se, wo, rfl, rfl, hw, hc⟩
theorem i_vc_word {k : Nat} {u : SX} {v : SY} (I : i_Rel k u v) (hk : k + 4 ≤ 2048) (v1 : Int32) : wpX_word (fun r u' => wpY_word (fun r' v' => r' = r ∧ i_Rel (k + 4) u' v') v v1) u v1 := by
  have J := I
  obtain ⟨wc, nu, st, le, cl, ki, fi, se, wo, rfl, rfl, hw, hc⟩ := I
  obtain ⟨t, tX, tY⟩ := pb_term (nI (pa_ct st 12)) wc nu st le cl ki fi se wo v1
  unfold wpX_word wpY_word
  by_cases z : t = 0
  · refine tX _ (br_t z ?_)
    exact tY _ (br_t z ⟨rfl, i_up J⟩)
  · by_cases g : wc = 16
    · have lt : ¬ nI wc < 16 := by rw [g, pa_16]; decide
      have eq : nI wc = 16 := by rw [g, pa_16]
      refine tX _ (br_f z (br_f lt ?_))
      exact tY _ (br_f z (br_t eq ⟨rfl, i_up J⟩))
    · have lt : nI wc < 16 := by rw [← pa_16]; exact nI_lt (by omega) (by omega)
      have eq : ¬ nI wc = 16 := by rw [← pa_16, nI_eq (by omega) (by omega)]; exact g
      have hi : vp_in (nI wc) 16 := vp_in_nI (by omega) (by omega)
      refine tX _ (br_f z (br_t lt ⟨hi, nm_e (nm_r (nI_1 wc) ?_)⟩))
      refine tY _ (br_f z (br_f eq ⟨hi, nm_e (nm_r (nI_1 wc) ?_)⟩))
      exact ⟨rfl, wc + 1, nu, st, le, cl, ki, fi, se, _, rfl, rfl, by omega, hc⟩
theorem i_vc_document {k : Nat} {u : SX} {v : SY} (I : i_Rel k u v) (hk : k + 4 ≤ 2048) (v1 : Int32) : wpX_document (fun u' => wpY_document (fun v' => i_Rel (k + 4) u' v') v v1) u v1 := by
  obtain ⟨wc, nu, st, le, cl, ki, fi, se, wo, rfl, rfl, hw, hc⟩ := I
  exact ⟨0, v1, st, le, cl, ki, fi, se, wo, rfl, rfl, by omega, hc⟩
theorem i_vc_matches {k : Nat} {u : SX} {v : SY} (I : i_Rel k u v) (hk : k + 4 ≤ 2048) : wpX_matches (fun r => wpY_matches (fun r' => r' = r ∧ i_Rel (k + 4) u v) v) u := by
  have J := I
  obtain ⟨wc, nu, st, le, cl, ki, fi, se, wo, rfl, rfl, hw, hc⟩ := I
  obtain ⟨r, hX, hY⟩ := pb_matches (nI (pa_ct st 12)) wc nu st le cl ki fi se wo hw hc
  exact hX _ (hY _ ⟨rfl, i_up J⟩)
theorem i_vc_match {k : Nat} {u : SX} {v : SY} (I : i_Rel k u v) (hk : k + 4 ≤ 2048) (v1 : Int32) : wpX_match (fun r => wpY_match (fun r' => r' = r ∧ i_Rel (k + 4) u v) v v1) u v1 := by
  have J := I
  obtain ⟨wc, nu, st, le, cl, ki, fi, se, wo, rfl, rfl, hw, hc⟩ := I
  obtain ⟨r, _, hX, hY⟩ := pb_rank (nI (pa_ct st 12)) wc nu st le cl ki fi se wo hw hc v1
  unfold wpX_match
  refine hX _ ?_
  exact hY _ ⟨rfl, i_up J⟩
theorem i_vc_score {k : Nat} {u : SX} {v : SY} (I : i_Rel k u v) (hk : k + 4 ≤ 2048) (v1 : Int32) : wpX_score (fun r => wpY_score (fun r' => r' = r ∧ i_Rel (k + 4) u v) v v1) u v1 := by
  have J := I
  obtain ⟨wc, nu, st, le, cl, ki, fi, se, wo, rfl, rfl, hw, hc⟩ := I
  obtain ⟨r, hr, hX, hY⟩ := pb_rank (nI (pa_ct st 12)) wc nu st le cl ki fi se wo hw hc v1
  unfold wpX_score wpY_score
  rcases hr with z | ⟨q, hq, rfl⟩
  · have n0 : ¬ 0 ≤ r := by rw [z]; decide
    refine hX _ (br_t z ?_)
    exact hY _ (br_f n0 ⟨rfl, i_up J⟩)
  · have p0 : 0 ≤ nI q := nI_pos' (by omega)
    have n5 : ¬ nI q = -5 := by
      intro e
      rw [e] at p0
      exact absurd p0 (by decide)
    obtain ⟨s, sX, sY⟩ := pb_score (nI (pa_ct st 12)) wc nu st le cl ki fi se wo hw hc q hq
    refine hX _ (br_f n5 (sX _ ?_))
    exact hY _ (br_t p0 (sY _ ⟨rfl, i_up J⟩))
theorem i_vc_matchesQuery {k : Nat} {u : SX} {v : SY} (I : i_Rel k u v) (hk : k + 4 ≤ 2048) (v1 : Int32) : wpX_matchesQuery (fun r => wpY_matchesQuery (fun r' => r' = r ∧ i_Rel (k + 4) u v) v v1) u v1 := by
  have J := I
  obtain ⟨wc, nu, st, le, cl, ki, fi, se, wo, rfl, rfl, hw, hc⟩ := I
  obtain ⟨r, hr, hX, hY⟩ := pb_match (nI (pa_ct st 12)) wc nu st le cl ki fi se wo hw hc v1
  unfold wpX_matchesQuery
  refine hX _ ⟨pb_nb hr, ?_⟩
  exact hY _ ⟨rfl, i_up J⟩
