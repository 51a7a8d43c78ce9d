theorem pb_times_l (qc : Int32) (wc : Nat) (nu : Int32) (st le cl ki fi se wo : Nat → Int32) (hw : wc ≤ 16) (t : Int32) : ∀ (d j : Nat) (a : Int32), j + d = wc → ∃ r : Int32, (∀ post : Int32 → Prop, post r → wX_timesInDocument_4 post t qc (nI wc) nu st le cl ki fi se wo (d + 1) a (nI j)) ∧ (∀ post : Int32 → Prop, post r → wY_often_4 post t (nI wc) nu st le cl ki fi se wo (d + 1) a (nI j)) := by
  intro d
  induction d with
  | zero =>
    intro j a hj
    have h : nI wc ≤ nI j := nI_le (by omega) (by omega)
    exact ⟨a, fun _ hp => br_t h hp, fun _ hp => br_t h hp⟩
  | succ d ih =>
    intro j a hj
    have h : ¬ nI wc ≤ nI j := nI_ge (by omega) (by omega)
    have hi : vp_in (nI j) 16 := vp_in_nI (by omega) (by omega)
    by_cases z : wo (nI j).toNatClampNeg = t
    · obtain ⟨r, hX, hY⟩ := ih (j + 1) (a + 1) (by omega)
      exact ⟨r, fun post hp => br_f h ⟨hi, br_t z (nm_e (nm_r (nI_1 j) (hX post hp)))⟩, fun post hp => br_f h ⟨hi, br_t z (nm_e (nm_r (nI_1 j) (hY post hp)))⟩⟩
    · obtain ⟨r, hX, hY⟩ := ih (j + 1) a (by omega)
      exact ⟨r, fun post hp => br_f h ⟨hi, br_f z (nm_r (nI_1 j) (hX post hp))⟩, fun post hp => br_f h ⟨hi, br_f z (nm_r (nI_1 j) (hY post hp))⟩⟩
theorem pb_times (qc : Int32) (wc : Nat) (nu : Int32) (st le cl ki fi se wo : Nat → Int32) (hw : wc ≤ 16) (t : Int32) : ∃ r : Int32, (∀ post : Int32 → Prop, post r → wpX_timesInDocument post (qc, nI wc, nu, st, le, cl, ki, fi, se, wo) t) ∧ (∀ post : Int32 → Prop, post r → wpY_often post (nI wc, nu, st, le, cl, ki, fi, se, wo) t) := by
  obtain ⟨r, hX, hY⟩ := pb_times_l qc wc nu st le cl ki fi se wo hw t wc 0 0 (by omega)
  exact ⟨r, fun post hp => ⟨_, hX post hp⟩, fun post hp => ⟨_, hY post hp⟩⟩
theorem pb_phrase_l (qc : Int32) (wc : Nat) (nu : Int32) (st le cl ki fi se wo : Nat → Int32) (hw : wc ≤ 16) (t u : Int32) : ∀ (d j : Nat), j ≤ 16 → wc ≤ j + 1 + d → ∃ r : Int32, (r = 0 ∨ r = 1) ∧ (∀ post : Int32 → Prop, post r → wX_hasPhrase_2 post t u qc (nI wc) nu st le cl ki fi se wo (d + 1) (nI (j + 1))) ∧ (∀ post : Int32 → Prop, post r → wY_beside_2 post t u (nI wc) nu st le cl ki fi se wo (d + 1) (nI j)) := by
  intro d
  induction d with
  | zero =>
    intro j hj hd
    have h : nI wc ≤ nI (j + 1) := nI_le (by omega) (by omega)
    have hy : nI wc ≤ nI j + 1 := by rw [nI_1]; exact h
    exact ⟨0, Or.inl rfl, fun _ hp => br_t h hp, fun _ hp => br_t hy hp⟩
  | succ d ih =>
    intro j hj hd
    by_cases g : wc ≤ j + 1
    · have h : nI wc ≤ nI (j + 1) := nI_le (by omega) (by omega)
      have hy : nI wc ≤ nI j + 1 := by rw [nI_1]; exact h
      exact ⟨0, Or.inl rfl, fun _ hp => br_t h hp, fun _ hp => br_t hy hp⟩
    · have eP : nI (j + 1) - 1 = nI j := nI_pred j
      have eS : nI j + 1 = nI (j + 1) := nI_1 j
      have h : ¬ nI wc ≤ nI (j + 1) := nI_ge (by omega) (by omega)
      have hy : ¬ nI wc ≤ nI j + 1 := by rw [eS]; exact h
      have i0 : vp_in (nI j) 16 := vp_in_nI (by omega) (by omega)
      have i1 : vp_in (nI (j + 1)) 16 := vp_in_nI (by omega) (by omega)
      have i0x : vp_in (nI (j + 1) - 1) 16 := by rw [eP]; exact i0
      have i1y : vp_in (nI j + 1) 16 := by rw [eS]; exact i1
      by_cases z : wo (nI j).toNatClampNeg = t
      · have zx : wo (nI (j + 1) - 1).toNatClampNeg = t := by rw [eP]; exact z
        by_cases w : wo (nI (j + 1)).toNatClampNeg = u
        · have wy : wo (nI j + 1).toNatClampNeg = u := by rw [eS]; exact w
          exact ⟨1, Or.inr rfl, fun _ hp => br_f h ⟨i0x, br_t zx ⟨i1, br_t w hp⟩⟩, fun _ hp => br_f hy ⟨i0, br_t z ⟨i1y, br_t wy hp⟩⟩⟩
        · have wy : ¬ wo (nI j + 1).toNatClampNeg = u := by rw [eS]; exact w
          obtain ⟨r, hr, hX, hY⟩ := ih (j + 1) (by omega) (by omega)
          exact ⟨r, hr, fun post hp => br_f h ⟨i0x, br_t zx ⟨i1, br_f w (nm_r (nI_1 (j + 1)) (hX post hp))⟩⟩, fun post hp => br_f hy ⟨i0, br_t z ⟨i1y, br_f wy (nm_r (nI_1 j) (hY post hp))⟩⟩⟩
      · have zx : ¬ wo (nI (j + 1) - 1).toNatClampNeg = t := by rw [eP]; exact z
        obtain ⟨r, hr, hX, hY⟩ := ih (j + 1) (by omega) (by omega)
        exact ⟨r, hr, fun post hp => br_f h ⟨i0x, br_f zx (nm_r (nI_1 (j + 1)) (hX post hp))⟩, fun post hp => br_f hy ⟨i0, br_f z (nm_r (nI_1 j) (hY post hp))⟩⟩
theorem pb_phrase (qc : Int32) (wc : Nat) (nu : Int32) (st le cl ki fi se wo : Nat → Int32) (hw : wc ≤ 16) (t u : Int32) : ∃ r : Int32, (r = 0 ∨ r = 1) ∧ (∀ post : Int32 → Prop, post r → wpX_hasPhrase post (qc, nI wc, nu, st, le, cl, ki, fi, se, wo) t u) ∧ (∀ post : Int32 → Prop, post r → wpY_beside post (nI wc, nu, st, le, cl, ki, fi, se, wo) t u) := by
  obtain ⟨r, hr, hX, hY⟩ := pb_phrase_l qc wc nu st le cl ki fi se wo hw t u wc 0 (by omega) (by omega)
  exact ⟨r, hr, fun post hp => ⟨_, hX post hp⟩, fun post hp => ⟨_, hY post hp⟩⟩
theorem pb_nb {r : Int32} (h : r = 0 ∨ r = 1) : narrow .boolean (.int r) = .int r := by
  cases h with
  | inl h => rw [h]; rfl
  | inr h => rw [h]; rfl
/-- a clause holds, or not: one answer -/
theorem pb_holds (qc : Int32) (wc : Nat) (nu : Int32) (st le cl ki fi se wo : Nat → Int32) (hw : wc ≤ 16) (s : Nat) (hs : s < 72) : ∃ r : Int32, (r = 0 ∨ r = 1) ∧ (∀ post : Int32 → Prop, post r → wpX_clauseHolds post (qc, nI wc, nu, st, le, cl, ki, fi, se, wo) (nI s)) ∧ (∀ post : Int32 → Prop, post r → wpY_holds post (nI wc, nu, st, le, cl, ki, fi, se, wo) (nI s)) := by
  have hi : vp_in (nI s) 72 := vp_in_nI hs (by omega)
  obtain ⟨t, tX, tY⟩ := pb_times qc wc nu st le cl ki fi se wo hw (fi (nI s).toNatClampNeg)
  by_cases k1 : ki (nI s).toNatClampNeg = 1
  · have a1 : ¬ ki (nI s).toNatClampNeg < 1 := by rw [k1]; decide
    have a4 : ¬ 4 < ki (nI s).toNatClampNeg := by rw [k1]; decide
    by_cases g : t = 0
    · exact ⟨1, Or.inr rfl, fun post hp => ⟨hi, nm_e (br_f a1 (br_f a4 (br_t k1 ⟨hi, tX _ (br_t g hp)⟩)))⟩, fun post hp => ⟨hi, br_t k1 ⟨hi, tY _ (br_t g hp)⟩⟩⟩
    · exact ⟨0, Or.inl rfl, fun post hp => ⟨hi, nm_e (br_f a1 (br_f a4 (br_t k1 ⟨hi, tX _ (br_f g hp)⟩)))⟩, fun post hp => ⟨hi, br_t k1 ⟨hi, tY _ (br_f g hp)⟩⟩⟩
  · by_cases k3 : ki (nI s).toNatClampNeg = 3
    · have a1 : ¬ ki (nI s).toNatClampNeg < 1 := by rw [k3]; decide
      have a4 : ¬ 4 < ki (nI s).toNatClampNeg := by rw [k3]; decide
      have a2 : ¬ ki (nI s).toNatClampNeg = 2 := by rw [k3]; decide
      obtain ⟨r, hr, pX, pY⟩ := pb_phrase qc wc nu st le cl ki fi se wo hw (fi (nI s).toNatClampNeg) (se (nI s).toNatClampNeg)
      exact ⟨r, hr, fun post hp => ⟨hi, nm_e (br_f a1 (br_f a4 (br_f k1 (br_f a2 (br_t k3 ⟨hi, hi, pX _ ⟨pb_nb hr, hp⟩⟩)))))⟩, fun post hp => ⟨hi, br_f k1 ⟨hi, br_t k3 ⟨hi, hi, pY _ ⟨pb_nb hr, hp⟩⟩⟩⟩⟩
    · by_cases k4 : ki (nI s).toNatClampNeg = 4
      · have a1 : ¬ ki (nI s).toNatClampNeg < 1 := by rw [k4]; decide
        have a4 : ¬ 4 < ki (nI s).toNatClampNeg := by rw [k4]; decide
        have a2 : ¬ ki (nI s).toNatClampNeg = 2 := by rw [k4]; decide
        by_cases g : nu < fi (nI s).toNatClampNeg
        · exact ⟨0, Or.inl rfl, fun post hp => ⟨hi, nm_e (br_f a1 (br_f a4 (br_f k1 (br_f a2 (br_f k3 (br_t k4 ⟨hi, br_t g hp⟩))))))⟩, fun post hp => ⟨hi, br_f k1 ⟨hi, br_f k3 ⟨hi, br_t k4 ⟨hi, br_t g hp⟩⟩⟩⟩⟩
        · by_cases g2 : se (nI s).toNatClampNeg < nu
          · exact ⟨0, Or.inl rfl, fun post hp => ⟨hi, nm_e (br_f a1 (br_f a4 (br_f k1 (br_f a2 (br_f k3 (br_t k4 ⟨hi, br_f g ⟨hi, br_t g2 hp⟩⟩))))))⟩, fun post hp => ⟨hi, br_f k1 ⟨hi, br_f k3 ⟨hi, br_t k4 ⟨hi, br_f g ⟨hi, br_t g2 hp⟩⟩⟩⟩⟩⟩
          · exact ⟨1, Or.inr rfl, fun post hp => ⟨hi, nm_e (br_f a1 (br_f a4 (br_f k1 (br_f a2 (br_f k3 (br_t k4 ⟨hi, br_f g ⟨hi, br_f g2 hp⟩⟩))))))⟩, fun post hp => ⟨hi, br_f k1 ⟨hi, br_f k3 ⟨hi, br_t k4 ⟨hi, br_f g ⟨hi, br_f g2 hp⟩⟩⟩⟩⟩⟩
      · obtain ⟨r, hr, dX, dY⟩ : ∃ r : Int32, (r = 0 ∨ r = 1) ∧ (∀ post : Int32 → Prop, post r → wX_clauseHolds_104 post (nI s) qc (nI wc) nu st le cl ki fi se wo) ∧ (∀ post : Int32 → Prop, post r → wpY_often (fun r_8 => ((r_8 ≤ 0 → post 0) ∧ (¬ r_8 ≤ 0 → post 1))) (nI wc, nu, st, le, cl, ki, fi, se, wo) (fi (nI s).toNatClampNeg)) := by
          by_cases g : t ≤ 0
          · exact ⟨0, Or.inl rfl, fun post hp => ⟨hi, tX _ (br_t g hp)⟩, fun post hp => tY _ (br_t g hp)⟩
          · exact ⟨1, Or.inr rfl, fun post hp => ⟨hi, tX _ (br_f g hp)⟩, fun post hp => tY _ (br_f g hp)⟩
        refine ⟨r, hr, fun post hp => ⟨hi, nm_e ?_⟩, fun post hp => ⟨hi, br_f k1 ⟨hi, br_f k3 ⟨hi, br_f k4 ⟨hi, dY post hp⟩⟩⟩⟩⟩
        exact br_c (fun _ => dX post hp) (fun _ => br_c (fun _ => dX post hp) (fun _ => br_f k1 (br_c (fun _ => dX post hp) (fun _ => br_f k3 (br_f k4 trivial)))))
