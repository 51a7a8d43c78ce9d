theorem pb_le12 {j : Nat} (h : j = 12) : (12 : Int32) ≤ nI j := by rw [h, pa_12]; decide
theorem pb_nle12 {j : Nat} (h : j < 12) : ¬ (12 : Int32) ≤ nI j := by rw [← pa_12]; exact nI_ge h (by omega)
theorem pb_matches_l (qc : Int32) (wc : Nat) (nu : Int32) (st le cl ki fi se wo : Nat → Int32) (hw : wc ≤ 16) (hc : ∀ q, q < 12 → ∃ c : Nat, c ≤ 6 ∧ cl q = nI c) : ∀ (d j : Nat) (a : Int32), j + d = 12 → ∃ r : Int32, (∀ post : Int32 → Prop, post r → wX_matches_4 post qc (nI wc) nu st le cl ki fi se wo (d + 1) a (nI j)) ∧ (∀ post : Int32 → Prop, post r → wY_matches_4 post (nI wc) nu st le cl ki fi se wo (d + 1) a (nI j)) := by
  intro d
  induction d with
  | zero =>
    intro j a hj
    have h := pb_le12 (j := j) (by omega)
    exact ⟨a, fun _ hp => br_t h hp, fun _ hp => br_t h hp⟩
  | succ d ih =>
    intro j a hj
    have h := pb_nle12 (j := j) (by omega)
    obtain ⟨m, _, mX, mY⟩ := pb_match qc wc nu st le cl ki fi se wo hw hc (nI j)
    by_cases z : m = 0
    · obtain ⟨r, hX, hY⟩ := ih (j + 1) a (by omega)
      exact ⟨r, fun post hp => br_f h (mX _ (br_t z (nm_r (nI_1 j) (hX post hp)))), fun post hp => br_f h (mY _ (br_t z (nm_r (nI_1 j) (hY post hp))))⟩
    · obtain ⟨r, hX, hY⟩ := ih (j + 1) (a + 1) (by omega)
      exact ⟨r, fun post hp => br_f h (mX _ (br_f z (nm_e (nm_r (nI_1 j) (hX post hp))))), fun post hp => br_f h (mY _ (br_f z (nm_e (nm_r (nI_1 j) (hY post hp)))))⟩
theorem pb_matches (qc : Int32) (wc : Nat) (nu : Int32) (st le cl ki fi se wo : Nat → Int32) (hw : wc ≤ 16) (hc : ∀ q, q < 12 → ∃ c : Nat, c ≤ 6 ∧ cl q = nI c) : ∃ r : Int32, (∀ post : Int32 → Prop, post r → wpX_matches post (qc, nI wc, nu, st, le, cl, ki, fi, se, wo)) ∧ (∀ post : Int32 → Prop, post r → wpY_matches post (nI wc, nu, st, le, cl, ki, fi, se, wo)) := by
  obtain ⟨r, hX, hY⟩ := pb_matches_l qc wc nu st le cl ki fi se wo hw hc 12 0 0 (by omega)
  exact ⟨r, fun post hp => ⟨_, hX post hp⟩, fun post hp => ⟨_, hY post hp⟩⟩
theorem pb_ahead_l (qc : Int32) (wc : Nat) (nu : Int32) (st le cl ki fi se wo : Nat → Int32) (hw : wc ≤ 16) (hc : ∀ q, q < 12 → ∃ c : Nat, c ≤ 6 ∧ cl q = nI c) (q : Nat) (s : Int32) (sY : ∀ post : Int32 → Prop, post s → wpY_scoreOf post (nI wc, nu, st, le, cl, ki, fi, se, wo) (nI q)) : ∀ (d j : Nat) (a : Int32), j + d = 12 → ∃ r : Int32, (∀ post : Int32 → Prop, post r → wX_matchesAhead_11 post (nI q) s qc (nI wc) nu st le cl ki fi se wo (d + 1) a (nI j)) ∧ (∀ post : Int32 → Prop, post r → wY_before_4 post (nI q) (nI wc) nu st le cl ki fi se wo (d + 1) a (nI j)) := by
  intro d
  induction d with
  | zero =>
    intro j a hj
    have h := pb_le12 (j := j) (by omega)
    exact ⟨a, fun _ hp => br_t h hp, fun _ hp => br_t h hp⟩
  | succ d ih =>
    intro j a hj
    have h := pb_nle12 (j := j) (by omega)
    obtain ⟨m, _, mX, mY⟩ := pb_match qc wc nu st le cl ki fi se wo hw hc (nI j)
    obtain ⟨t, tX, tY⟩ := pb_score qc wc nu st le cl ki fi se wo hw hc j (by omega)
    have c45 : ∀ (post : Int32 → Prop) (J : Int32 → Int32 → Prop), J a (nI (j + 1)) → wY_before_45 post J (nI q) a (nI j) (nI wc) nu st le cl ki fi se wo := by
      intro post J hJ
      unfold wY_before_45 wY_before_46
      exact br_t rfl (nm_r (nI_1 j) hJ)
    have c41 : ∀ (post : Int32 → Prop) (J : Int32 → Int32 → Prop), (m = 0 → J a (nI (j + 1))) → (¬ m = 0 → J (a + 1) (nI (j + 1))) → wY_before_41 post J (nI q) a (nI j) (nI wc) nu st le cl ki fi se wo := by
      intro post J h1 h2
      unfold wY_before_41 wY_before_46
      exact br_f (by decide) (mY _ (br_c (fun z => nm_r (nI_1 j) (h1 z)) (fun z => nm_e (nm_r (nI_1 j) (h2 z)))))
    by_cases z : m = 0
    · obtain ⟨r, hX, hY⟩ := ih (j + 1) a (by omega)
      refine ⟨r, fun post hp => br_f h (mX _ (br_t z (nm_r (nI_1 j) (hX post hp)))), fun post hp => br_f h (tY _ (sY _ ?_))⟩
      exact br_c (fun _ => c41 _ _ (fun _ => hY post hp) (fun n => absurd z n)) (fun _ => tY _ (sY _ (br_c (fun _ => br_c (fun _ => c45 _ _ (hY post hp)) (fun _ => c41 _ _ (fun _ => hY post hp) (fun n => absurd z n))) (fun _ => c45 _ _ (hY post hp)))))
    · by_cases g : s < t
      · obtain ⟨r, hX, hY⟩ := ih (j + 1) (a + 1) (by omega)
        exact ⟨r, fun post hp => br_f h (mX _ (br_f z (tX _ (br_t g (nm_e (nm_r (nI_1 j) (hX post hp))))))), fun post hp => br_f h (tY _ (sY _ (br_t g (c41 _ _ (fun n => absurd n z) (fun _ => hY post hp)))))⟩
      · by_cases e : t = s
        · by_cases l : nI q ≤ nI j
          · obtain ⟨r, hX, hY⟩ := ih (j + 1) a (by omega)
            exact ⟨r, fun post hp => br_f h (mX _ (br_f z (tX _ (br_f g (br_t e (br_t l (nm_r (nI_1 j) (hX post hp)))))))), fun post hp => br_f h (tY _ (sY _ (br_f g (tY _ (sY _ (br_t e (br_t l (c45 _ _ (hY post hp)))))))))⟩
          · obtain ⟨r, hX, hY⟩ := ih (j + 1) (a + 1) (by omega)
            exact ⟨r, fun post hp => br_f h (mX _ (br_f z (tX _ (br_f g (br_t e (br_f l (nm_e (nm_r (nI_1 j) (hX post hp))))))))), fun post hp => br_f h (tY _ (sY _ (br_f g (tY _ (sY _ (br_t e (br_f l (c41 _ _ (fun n => absurd n z) (fun _ => hY post hp)))))))))⟩
        · obtain ⟨r, hX, hY⟩ := ih (j + 1) a (by omega)
          exact ⟨r, fun post hp => br_f h (mX _ (br_f z (tX _ (br_f g (br_f e (nm_r (nI_1 j) (hX post hp))))))), fun post hp => br_f h (tY _ (sY _ (br_f g (tY _ (sY _ (br_f e (c45 _ _ (hY post hp))))))))⟩
theorem pb_ahead (qc : Int32) (wc : Nat) (nu : Int32) (st le cl ki fi se wo : Nat → Int32) (hw : wc ≤ 16) (hc : ∀ q, q < 12 → ∃ c : Nat, c ≤ 6 ∧ cl q = nI c) (q : Nat) (hq : q < 12) : ∃ r : Int32, (∀ post : Int32 → Prop, post r → wpX_matchesAhead post (qc, nI wc, nu, st, le, cl, ki, fi, se, wo) (nI q)) ∧ (∀ post : Int32 → Prop, post r → wpY_before post (nI wc, nu, st, le, cl, ki, fi, se, wo) (nI q)) := by
  obtain ⟨s, sX, sY⟩ := pb_score qc wc nu st le cl ki fi se wo hw hc q hq
  obtain ⟨r, hX, hY⟩ := pb_ahead_l qc wc nu st le cl ki fi se wo hw hc q s sY 12 0 0 (by omega)
  refine ⟨r, fun post hp => ?_, fun post hp => ⟨_, hY post hp⟩⟩
  unfold wpX_matchesAhead
  exact sX _ ⟨_, hX post hp⟩
theorem pb_rank_l (qc : Int32) (wc : Nat) (nu : Int32) (st le cl ki fi se wo : Nat → Int32) (hw : wc ≤ 16) (hc : ∀ q, q < 12 → ∃ c : Nat, c ≤ 6 ∧ cl q = nI c) (x : Int32) : ∀ (d j : Nat), j + d = 12 → ∃ r : Int32, (r = -5 ∨ ∃ q : Nat, q < 12 ∧ r = nI q) ∧ (∀ post : Int32 → Prop, post r → wX_queryAtRank_2 post x qc (nI wc) nu st le cl ki fi se wo (d + 1) (nI j)) ∧ (∀ post : Int32 → Prop, post r → wY_match_2 post x (nI wc) nu st le cl ki fi se wo (d + 1) (nI j)) := by
  intro d
  induction d with
  | zero =>
    intro j hj
    have h := pb_le12 (j := j) (by omega)
    exact ⟨-5, Or.inl rfl, fun _ hp => br_t h hp, fun _ hp => br_t h hp⟩
  | succ d ih =>
    intro j hj
    have h := pb_nle12 (j := j) (by omega)
    obtain ⟨m, _, mX, mY⟩ := pb_match qc wc nu st le cl ki fi se wo hw hc (nI j)
    by_cases z : m = 0
    · obtain ⟨r, hr, hX, hY⟩ := ih (j + 1) (by omega)
      exact ⟨r, hr, fun post hp => br_f h (mX _ (br_t z (nm_r (nI_1 j) (hX post hp)))), fun post hp => br_f h (mY _ (br_t z (nm_r (nI_1 j) (hY post hp))))⟩
    · obtain ⟨b, bX, bY⟩ := pb_ahead qc wc nu st le cl ki fi se wo hw hc j (by omega)
      by_cases e : b = x
      · exact ⟨nI j, Or.inr ⟨j, by omega, rfl⟩, fun post hp => br_f h (mX _ (br_f z (bX _ (br_t e hp)))), fun post hp => br_f h (mY _ (br_f z (bY _ (br_t e hp))))⟩
      · obtain ⟨r, hr, hX, hY⟩ := ih (j + 1) (by omega)
        exact ⟨r, hr, fun post hp => br_f h (mX _ (br_f z (bX _ (br_f e (nm_r (nI_1 j) (hX post hp)))))), fun post hp => br_f h (mY _ (br_f z (bY _ (br_f e (nm_r (nI_1 j) (hY post hp))))))⟩
theorem pb_rank (qc : Int32) (wc : Nat) (nu : Int32) (st le cl ki fi se wo : Nat → Int32) (hw : wc ≤ 16) (hc : ∀ q, q < 12 → ∃ c : Nat, c ≤ 6 ∧ cl q = nI c) (x : Int32) : ∃ r : Int32, (r = -5 ∨ ∃ q : Nat, q < 12 ∧ r = nI q) ∧ (∀ post : Int32 → Prop, post r → wpX_queryAtRank post (qc, nI wc, nu, st, le, cl, ki, fi, se, wo) x) ∧ (∀ post : Int32 → Prop, post r → wpY_match post (nI wc, nu, st, le, cl, ki, fi, se, wo) x) := by
  obtain ⟨r, hr, hX, hY⟩ := pb_rank_l qc wc nu st le cl ki fi se wo hw hc x 12 0 (by omega)
  exact ⟨r, hr, fun post hp => ⟨_, hX post hp⟩, fun post hp => ⟨_, hY post hp⟩⟩
