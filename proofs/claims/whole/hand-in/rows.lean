section
/-- pasted from the kit's pure rows: pk_us, pk_un, pk_m1, pk_mul, pk_ix -/
theorem pk_us {f : Nat → Int32} {k : Nat} {x : Int32} : upd f k x k = x := if_pos rfl
theorem pk_un {f : Nat → Int32} {k j : Nat} {x : Int32} (h : j ≠ k) : upd f k x j = f j := if_neg h
theorem pk_mul (a b : Nat) : nI a * nI b = nI (a * b) := (Int32.ofNat_mul a b).symm
theorem pk_m1 (n : Nat) : nI (n + 1) + (-1) = nI n := by
  rw [← nI_1, Int32.add_assoc, show (1 : Int32) + (-1) = 0 from rfl, Int32.add_zero]
/-- 1 for a cell that is not 0 -/
def pa_b (x : Int32) : Nat := if x = 0 then 0 else 1
theorem pa_b0 : pa_b 0 = 0 := rfl
theorem pa_b1 {x : Int32} (h : ¬ x = 0) : pa_b x = 1 := if_neg h
theorem pa_bz {x : Int32} (h : x = 0) : pa_b x = 0 := if_pos h
theorem pa_ble (x : Int32) : pa_b x ≤ 1 := by
  by_cases h : x = 0
  · rw [pa_bz h]; omega
  · rw [pa_b1 h]; omega
/-- how many of the first n cells are not 0 -/
def pa_ct (st : Nat → Int32) : Nat → Nat
  | 0 => 0
  | n + 1 => pa_ct st n + pa_b (st n)
theorem pa_ct_s (st : Nat → Int32) (n : Nat) : pa_ct st (n + 1) = pa_ct st n + pa_b (st n) := rfl
theorem pa_ct_le (st : Nat → Int32) : ∀ n, pa_ct st n ≤ n := by
  intro n
  induction n with
  | zero => exact Nat.le_refl _
  | succ n ih =>
    have h := pa_ble (st n)
    rw [pa_ct_s]
    omega
theorem pa_ct_lo {st : Nat → Int32} {q : Nat} {x : Int32} : ∀ n, n ≤ q → pa_ct (upd st q x) n = pa_ct st n := by
  intro n
  induction n with
  | zero => intro _; rfl
  | succ n ih =>
    intro h
    rw [pa_ct_s, pa_ct_s, ih (by omega), pk_un (by omega)]
theorem pa_ct_hi {st : Nat → Int32} {q : Nat} {x : Int32} : ∀ n, q < n → pa_ct (upd st q x) n + pa_b (st q) = pa_ct st n + pa_b x := by
  intro n
  induction n with
  | zero => intro h; omega
  | succ n ih =>
    intro h
    rw [pa_ct_s, pa_ct_s]
    by_cases e : q = n
    · subst e
      rw [pa_ct_lo q (Nat.le_refl q), pk_us]
      omega
    · have i := ih (by omega)
      rw [pk_un (fun z => e z.symm)]
      omega
theorem pa_ct_z (n : Nat) : pa_ct (fun _ => 0) n = 0 := by
  induction n with
  | zero => rfl
  | succ n ih => rw [pa_ct_s, ih]; rfl
theorem pa_v0 : vp_nar .boolean 0 = 0 := rfl
theorem pa_v1 : vp_nar .boolean 1 = 1 := rfl
theorem pa_n0 : narrow .boolean (.int 0) = .int 0 := rfl
theorem pa_n1 : narrow .boolean (.int 1) = .int 1 := rfl
theorem pa_6 : nI 6 = 6 := by decide +kernel
theorem pa_12 : nI 12 = 12 := by decide +kernel
theorem pa_16 : nI 16 = 16 := by decide +kernel
theorem pa_24 : nI 24 = 24 := by decide +kernel
/-- any number: below 0, 12 or more, or one of the twelve -/
theorem pa_ix (x : Int32) : x < 0 ∨ (¬ x < 0 ∧ 12 ≤ x) ∨ ∃ q : Nat, q < 12 ∧ x = nI q := by
  by_cases h : x < 0
  · exact Or.inl h
  · obtain ⟨j, hj, rfl⟩ := nI_of h
    by_cases h2 : j < 12
    · exact Or.inr (Or.inr ⟨j, h2, rfl⟩)
    · refine Or.inr (Or.inl ⟨h, ?_⟩)
      rw [← pa_12]
      exact nI_le (by omega) hj
theorem pa_lt12 {q : Nat} (h : q < 12) : nI q < 12 := by rw [← pa_12]; exact nI_lt h (by omega)
theorem pa_ge0 {q : Nat} (h : q < 12) : ¬ nI q < 0 := nI_pos (by omega)
theorem pa_in12 {q : Nat} (h : q < 12) : vp_in (nI q) 12 := vp_in_nI h (by omega)
theorem pa_cl {q : Nat} (h : q < 2 ^ 31) : (nI q).toNatClampNeg = q := nI_clamp h
theorem pa_m6 (q : Nat) : nI q * 6 = nI (q * 6) := by rw [← pa_6, pk_mul]
theorem pa_z (x : Int32) : x + 0 = x := Int32.add_zero x
end
section
theorem pb_times_l (qc : Int32) (wc : Nat) (nu : Int32) (st le cl ki fi se wo : Nat → Int32) (hw : wc ≤ 16) (t : Int32) : ∀ (d j : Nat) (a : Int32), j + d = wc → ∃ r : Int32, (∀ post : Int32 → Prop, post r → wX_timesInDocument_4 post t qc (nI wc) nu st le cl ki fi se wo (d + 1) a (nI j)) ∧ (∀ post : Int32 → Prop, post r → wY_often_4 post t (nI wc) nu st le cl ki fi se wo (d + 1) a (nI j)) := by
  intro d
  induction d with
  | zero =>
    intro j a hj
    have h : nI wc ≤ nI j := nI_le (by omega) (by omega)
    exact ⟨a, fun _ hp => br_t h hp, fun _ hp => br_t h hp⟩
  | succ d ih =>
    intro j a hj
    have h : ¬ nI wc ≤ nI j := nI_ge (by omega) (by omega)
    have hi : vp_in (nI j) 16 := vp_in_nI (by omega) (by omega)
    by_cases z : wo (nI j).toNatClampNeg = t
    · obtain ⟨r, hX, hY⟩ := ih (j + 1) (a + 1) (by omega)
      exact ⟨r, fun post hp => br_f h ⟨hi, br_t z (nm_e (nm_r (nI_1 j) (hX post hp)))⟩, fun post hp => br_f h ⟨hi, br_t z (nm_e (nm_r (nI_1 j) (hY post hp)))⟩⟩
    · obtain ⟨r, hX, hY⟩ := ih (j + 1) a (by omega)
      exact ⟨r, fun post hp => br_f h ⟨hi, br_f z (nm_r (nI_1 j) (hX post hp))⟩, fun post hp => br_f h ⟨hi, br_f z (nm_r (nI_1 j) (hY post hp))⟩⟩
theorem pb_times (qc : Int32) (wc : Nat) (nu : Int32) (st le cl ki fi se wo : Nat → Int32) (hw : wc ≤ 16) (t : Int32) : ∃ r : Int32, (∀ post : Int32 → Prop, post r → wpX_timesInDocument post (qc, nI wc, nu, st, le, cl, ki, fi, se, wo) t) ∧ (∀ post : Int32 → Prop, post r → wpY_often post (nI wc, nu, st, le, cl, ki, fi, se, wo) t) := by
  obtain ⟨r, hX, hY⟩ := pb_times_l qc wc nu st le cl ki fi se wo hw t wc 0 0 (by omega)
  exact ⟨r, fun post hp => ⟨_, hX post hp⟩, fun post hp => ⟨_, hY post hp⟩⟩
theorem pb_phrase_l (qc : Int32) (wc : Nat) (nu : Int32) (st le cl ki fi se wo : Nat → Int32) (hw : wc ≤ 16) (t u : Int32) : ∀ (d j : Nat), j ≤ 16 → wc ≤ j + 1 + d → ∃ r : Int32, (r = 0 ∨ r = 1) ∧ (∀ post : Int32 → Prop, post r → wX_hasPhrase_2 post t u qc (nI wc) nu st le cl ki fi se wo (d + 1) (nI (j + 1))) ∧ (∀ post : Int32 → Prop, post r → wY_beside_2 post t u (nI wc) nu st le cl ki fi se wo (d + 1) (nI j)) := by
  intro d
  induction d with
  | zero =>
    intro j hj hd
    have h : nI wc ≤ nI (j + 1) := nI_le (by omega) (by omega)
    have hy : nI wc ≤ nI j + 1 := by rw [nI_1]; exact h
    exact ⟨0, Or.inl rfl, fun _ hp => br_t h hp, fun _ hp => br_t hy hp⟩
  | succ d ih =>
    intro j hj hd
    by_cases g : wc ≤ j + 1
    · have h : nI wc ≤ nI (j + 1) := nI_le (by omega) (by omega)
      have hy : nI wc ≤ nI j + 1 := by rw [nI_1]; exact h
      exact ⟨0, Or.inl rfl, fun _ hp => br_t h hp, fun _ hp => br_t hy hp⟩
    · have eP : nI (j + 1) - 1 = nI j := nI_pred j
      have eS : nI j + 1 = nI (j + 1) := nI_1 j
      have h : ¬ nI wc ≤ nI (j + 1) := nI_ge (by omega) (by omega)
      have hy : ¬ nI wc ≤ nI j + 1 := by rw [eS]; exact h
      have i0 : vp_in (nI j) 16 := vp_in_nI (by omega) (by omega)
      have i1 : vp_in (nI (j + 1)) 16 := vp_in_nI (by omega) (by omega)
      have i0x : vp_in (nI (j + 1) - 1) 16 := by rw [eP]; exact i0
      have i1y : vp_in (nI j + 1) 16 := by rw [eS]; exact i1
      by_cases z : wo (nI j).toNatClampNeg = t
      · have zx : wo (nI (j + 1) - 1).toNatClampNeg = t := by rw [eP]; exact z
        by_cases w : wo (nI (j + 1)).toNatClampNeg = u
        · have wy : wo (nI j + 1).toNatClampNeg = u := by rw [eS]; exact w
          exact ⟨1, Or.inr rfl, fun _ hp => br_f h ⟨i0x, br_t zx ⟨i1, br_t w hp⟩⟩, fun _ hp => br_f hy ⟨i0, br_t z ⟨i1y, br_t wy hp⟩⟩⟩
        · have wy : ¬ wo (nI j + 1).toNatClampNeg = u := by rw [eS]; exact w
          obtain ⟨r, hr, hX, hY⟩ := ih (j + 1) (by omega) (by omega)
          exact ⟨r, hr, fun post hp => br_f h ⟨i0x, br_t zx ⟨i1, br_f w (nm_r (nI_1 (j + 1)) (hX post hp))⟩⟩, fun post hp => br_f hy ⟨i0, br_t z ⟨i1y, br_f wy (nm_r (nI_1 j) (hY post hp))⟩⟩⟩
      · have zx : ¬ wo (nI (j + 1) - 1).toNatClampNeg = t := by rw [eP]; exact z
        obtain ⟨r, hr, hX, hY⟩ := ih (j + 1) (by omega) (by omega)
        exact ⟨r, hr, fun post hp => br_f h ⟨i0x, br_f zx (nm_r (nI_1 (j + 1)) (hX post hp))⟩, fun post hp => br_f hy ⟨i0, br_f z (nm_r (nI_1 j) (hY post hp))⟩⟩
theorem pb_phrase (qc : Int32) (wc : Nat) (nu : Int32) (st le cl ki fi se wo : Nat → Int32) (hw : wc ≤ 16) (t u : Int32) : ∃ r : Int32, (r = 0 ∨ r = 1) ∧ (∀ post : Int32 → Prop, post r → wpX_hasPhrase post (qc, nI wc, nu, st, le, cl, ki, fi, se, wo) t u) ∧ (∀ post : Int32 → Prop, post r → wpY_beside post (nI wc, nu, st, le, cl, ki, fi, se, wo) t u) := by
  obtain ⟨r, hr, hX, hY⟩ := pb_phrase_l qc wc nu st le cl ki fi se wo hw t u wc 0 (by omega) (by omega)
  exact ⟨r, hr, fun post hp => ⟨_, hX post hp⟩, fun post hp => ⟨_, hY post hp⟩⟩
theorem pb_nb {r : Int32} (h : r = 0 ∨ r = 1) : narrow .boolean (.int r) = .int r := by
  cases h with
  | inl h => rw [h]; rfl
  | inr h => rw [h]; rfl
/-- a clause holds, or not: one answer -/
theorem pb_holds (qc : Int32) (wc : Nat) (nu : Int32) (st le cl ki fi se wo : Nat → Int32) (hw : wc ≤ 16) (s : Nat) (hs : s < 72) : ∃ r : Int32, (r = 0 ∨ r = 1) ∧ (∀ post : Int32 → Prop, post r → wpX_clauseHolds post (qc, nI wc, nu, st, le, cl, ki, fi, se, wo) (nI s)) ∧ (∀ post : Int32 → Prop, post r → wpY_holds post (nI wc, nu, st, le, cl, ki, fi, se, wo) (nI s)) := by
  have hi : vp_in (nI s) 72 := vp_in_nI hs (by omega)
  obtain ⟨t, tX, tY⟩ := pb_times qc wc nu st le cl ki fi se wo hw (fi (nI s).toNatClampNeg)
  by_cases k1 : ki (nI s).toNatClampNeg = 1
  · have a1 : ¬ ki (nI s).toNatClampNeg < 1 := by rw [k1]; decide
    have a4 : ¬ 4 < ki (nI s).toNatClampNeg := by rw [k1]; decide
    by_cases g : t = 0
    · exact ⟨1, Or.inr rfl, fun post hp => ⟨hi, nm_e (br_f a1 (br_f a4 (br_t k1 ⟨hi, tX _ (br_t g hp)⟩)))⟩, fun post hp => ⟨hi, br_t k1 ⟨hi, tY _ (br_t g hp)⟩⟩⟩
    · exact ⟨0, Or.inl rfl, fun post hp => ⟨hi, nm_e (br_f a1 (br_f a4 (br_t k1 ⟨hi, tX _ (br_f g hp)⟩)))⟩, fun post hp => ⟨hi, br_t k1 ⟨hi, tY _ (br_f g hp)⟩⟩⟩
  · by_cases k3 : ki (nI s).toNatClampNeg = 3
    · have a1 : ¬ ki (nI s).toNatClampNeg < 1 := by rw [k3]; decide
      have a4 : ¬ 4 < ki (nI s).toNatClampNeg := by rw [k3]; decide
      have a2 : ¬ ki (nI s).toNatClampNeg = 2 := by rw [k3]; decide
      obtain ⟨r, hr, pX, pY⟩ := pb_phrase qc wc nu st le cl ki fi se wo hw (fi (nI s).toNatClampNeg) (se (nI s).toNatClampNeg)
      exact ⟨r, hr, fun post hp => ⟨hi, nm_e (br_f a1 (br_f a4 (br_f k1 (br_f a2 (br_t k3 ⟨hi, hi, pX _ ⟨pb_nb hr, hp⟩⟩)))))⟩, fun post hp => ⟨hi, br_f k1 ⟨hi, br_t k3 ⟨hi, hi, pY _ ⟨pb_nb hr, hp⟩⟩⟩⟩⟩
    · by_cases k4 : ki (nI s).toNatClampNeg = 4
      · have a1 : ¬ ki (nI s).toNatClampNeg < 1 := by rw [k4]; decide
        have a4 : ¬ 4 < ki (nI s).toNatClampNeg := by rw [k4]; decide
        have a2 : ¬ ki (nI s).toNatClampNeg = 2 := by rw [k4]; decide
        by_cases g : nu < fi (nI s).toNatClampNeg
        · exact ⟨0, Or.inl rfl, fun post hp => ⟨hi, nm_e (br_f a1 (br_f a4 (br_f k1 (br_f a2 (br_f k3 (br_t k4 ⟨hi, br_t g hp⟩))))))⟩, fun post hp => ⟨hi, br_f k1 ⟨hi, br_f k3 ⟨hi, br_t k4 ⟨hi, br_t g hp⟩⟩⟩⟩⟩
        · by_cases g2 : se (nI s).toNatClampNeg < nu
          · exact ⟨0, Or.inl rfl, fun post hp => ⟨hi, nm_e (br_f a1 (br_f a4 (br_f k1 (br_f a2 (br_f k3 (br_t k4 ⟨hi, br_f g ⟨hi, br_t g2 hp⟩⟩))))))⟩, fun post hp => ⟨hi, br_f k1 ⟨hi, br_f k3 ⟨hi, br_t k4 ⟨hi, br_f g ⟨hi, br_t g2 hp⟩⟩⟩⟩⟩⟩
          · exact ⟨1, Or.inr rfl, fun post hp => ⟨hi, nm_e (br_f a1 (br_f a4 (br_f k1 (br_f a2 (br_f k3 (br_t k4 ⟨hi, br_f g ⟨hi, br_f g2 hp⟩⟩))))))⟩, fun post hp => ⟨hi, br_f k1 ⟨hi, br_f k3 ⟨hi, br_t k4 ⟨hi, br_f g ⟨hi, br_f g2 hp⟩⟩⟩⟩⟩⟩
      · obtain ⟨r, hr, dX, dY⟩ : ∃ r : Int32, (r = 0 ∨ r = 1) ∧ (∀ post : Int32 → Prop, post r → wX_clauseHolds_104 post (nI s) qc (nI wc) nu st le cl ki fi se wo) ∧ (∀ post : Int32 → Prop, post r → wpY_often (fun r_8 => ((r_8 ≤ 0 → post 0) ∧ (¬ r_8 ≤ 0 → post 1))) (nI wc, nu, st, le, cl, ki, fi, se, wo) (fi (nI s).toNatClampNeg)) := by
          by_cases g : t ≤ 0
          · exact ⟨0, Or.inl rfl, fun post hp => ⟨hi, tX _ (br_t g hp)⟩, fun post hp => tY _ (br_t g hp)⟩
          · exact ⟨1, Or.inr rfl, fun post hp => ⟨hi, tX _ (br_f g hp)⟩, fun post hp => tY _ (br_f g hp)⟩
        refine ⟨r, hr, fun post hp => ⟨hi, nm_e ?_⟩, fun post hp => ⟨hi, br_f k1 ⟨hi, br_f k3 ⟨hi, br_f k4 ⟨hi, dY post hp⟩⟩⟩⟩⟩
        exact br_c (fun _ => dX post hp) (fun _ => br_c (fun _ => dX post hp) (fun _ => br_f k1 (br_c (fun _ => dX post hp) (fun _ => br_f k3 (br_f k4 trivial)))))
end
section
theorem pb_stored (qc : Int32) (wc : Nat) (nu : Int32) (st le cl ki fi se wo : Nat → Int32) (x : Int32) : ∃ r : Int32, (r = 0 ∨ (¬ r = 0 ∧ ∃ q : Nat, q < 12 ∧ x = nI q ∧ ¬ st q = 0)) ∧ (∀ post : Int32 → Prop, post r → wpX_isStored post (qc, nI wc, nu, st, le, cl, ki, fi, se, wo) x) ∧ (∀ post : Int32 → Prop, post r → wpY_isQuery post (nI wc, nu, st, le, cl, ki, fi, se, wo) x) := by
  by_cases h0 : x < 0
  · exact ⟨0, Or.inl rfl, fun _ hp => br_t h0 hp, fun _ hp => br_t h0 hp⟩
  · by_cases h12 : 12 ≤ x
    · exact ⟨0, Or.inl rfl, fun _ hp => br_f h0 (br_t h12 hp), fun _ hp => br_f h0 (br_t h12 hp)⟩
    · obtain ⟨q, hq, rfl⟩ : ∃ q : Nat, q < 12 ∧ x = nI q := by
        rcases pa_ix x with h | h | h
        · exact absurd h h0
        · exact absurd h.2 h12
        · exact h
      have hi := pa_in12 hq
      by_cases z : st (nI q).toNatClampNeg = 0
      · exact ⟨0, Or.inl rfl, fun _ hp => br_f h0 (br_f h12 ⟨hi, br_t z hp⟩), fun _ hp => br_f h0 (br_f h12 ⟨hi, br_t z hp⟩)⟩
      · refine ⟨1, Or.inr ⟨by decide, q, hq, rfl, ?_⟩, fun _ hp => br_f h0 (br_f h12 ⟨hi, br_f z hp⟩), fun _ hp => br_f h0 (br_f h12 ⟨hi, br_f z hp⟩)⟩
        rw [nI_clamp (by omega)] at z
        exact z
theorem pb_term (qc : Int32) (wc : Nat) (nu : Int32) (st le cl ki fi se wo : Nat → Int32) (x : Int32) : ∃ r : Int32, (∀ post : Int32 → Prop, post r → wpX_isTerm post x) ∧ (∀ post : Int32 → Prop, post r → wpY_isTerm post (nI wc, nu, st, le, cl, ki, fi, se, wo) x) := by
  by_cases h0 : x < 0
  · exact ⟨0, fun _ hp => br_t h0 hp, fun _ hp => br_t h0 hp⟩
  · by_cases h24 : 24 ≤ x
    · exact ⟨0, fun _ hp => br_f h0 (br_t h24 hp), fun _ hp => br_f h0 (br_t h24 hp)⟩
    · exact ⟨1, fun _ hp => br_f h0 (br_f h24 hp), fun _ hp => br_f h0 (br_f h24 hp)⟩
theorem pb_score_l (qc : Int32) (wc : Nat) (nu : Int32) (st le cl ki fi se wo : Nat → Int32) (hw : wc ≤ 16) (q c : Nat) (hq : q < 12) (h6 : c ≤ 6) (e : cl (nI q).toNatClampNeg = nI c) : ∀ (d k : Nat) (a : Int32), k + d = c → ∃ r : Int32, (∀ post : Int32 → Prop, post r → wX_scoreOf_10 post (nI q) (nI (q * 6)) qc (nI wc) nu st le cl ki fi se wo (d + 1) a (nI k)) ∧ (∀ post : Int32 → Prop, post r → wY_scoreOf_7 post (nI q) (nI wc) nu st le cl ki fi se wo (d + 1) a (nI (q * 6 + k))) := by
  have hi := pa_in12 hq
  intro d
  induction d with
  | zero =>
    intro k a hk
    have hx : cl (nI q).toNatClampNeg ≤ nI k := by rw [e]; exact nI_le (by omega) (by omega)
    have hy : nI q * 6 + cl (nI q).toNatClampNeg ≤ nI (q * 6 + k) := by rw [e, pa_m6, nI_add]; exact nI_le (by omega) (by omega)
    exact ⟨a, fun _ hp => ⟨hi, br_t hx hp⟩, fun _ hp => ⟨hi, br_t hy hp⟩⟩
  | succ d ih =>
    intro k a hk
    have hx : ¬ cl (nI q).toNatClampNeg ≤ nI k := by rw [e]; exact nI_ge (by omega) (by omega)
    have hy : ¬ nI q * 6 + cl (nI q).toNatClampNeg ≤ nI (q * 6 + k) := by rw [e, pa_m6, nI_add]; exact nI_ge (by omega) (by omega)
    have eS : nI (q * 6) + nI k = nI (q * 6 + k) := nI_add _ _
    have iy : vp_in (nI (q * 6 + k)) 72 := vp_in_nI (by omega) (by omega)
    have ix : vp_in (nI (q * 6) + nI k) 72 := by rw [eS]; exact iy
    have ek : ki (nI (q * 6) + nI k).toNatClampNeg = ki (nI (q * 6 + k)).toNatClampNeg := by rw [eS]
    have e1 : nI (q * 6 + k) + 1 = nI (q * 6 + (k + 1)) := nI_1 _
    obtain ⟨s, tX', tY⟩ := pb_times qc wc nu st le cl ki fi se wo hw (fi (nI (q * 6 + k)).toNatClampNeg)
    have tX : ∀ post : Int32 → Prop, post s → wpX_timesInDocument post (qc, nI wc, nu, st, le, cl, ki, fi, se, wo) (fi (nI (q * 6) + nI k).toNatClampNeg) := by rw [eS]; exact tX'
    by_cases k0 : ki (nI (q * 6 + k)).toNatClampNeg = 0
    · have k3 : ¬ ki (nI (q * 6 + k)).toNatClampNeg = 3 := by rw [k0]; decide
      obtain ⟨r, hX, hY⟩ := ih (k + 1) (a + s) (by omega)
      exact ⟨r, fun post hp => ⟨hi, br_f hx ⟨ix, nm_r ek (br_t k0 ⟨ix, tX _ (nm_e (nm_r (nI_1 k) (hX post hp)))⟩)⟩⟩, fun post hp => ⟨hi, br_f hy ⟨iy, br_t k0 ⟨iy, tY _ (nm_e ⟨iy, br_f k3 (nm_r e1 (hY post hp))⟩)⟩⟩⟩⟩
    · by_cases k2 : ki (nI (q * 6 + k)).toNatClampNeg = 2
      · have k3 : ¬ ki (nI (q * 6 + k)).toNatClampNeg = 3 := by rw [k2]; decide
        obtain ⟨r, hX, hY⟩ := ih (k + 1) (a + s) (by omega)
        exact ⟨r, fun post hp => ⟨hi, br_f hx ⟨ix, nm_r ek (br_f k0 (br_t k2 ⟨ix, tX _ (nm_e (nm_r (nI_1 k) (hX post hp)))⟩))⟩⟩, fun post hp => ⟨hi, br_f hy ⟨iy, br_f k0 ⟨iy, br_t k2 ⟨iy, tY _ (nm_e ⟨iy, br_f k3 (nm_r e1 (hY post hp))⟩)⟩⟩⟩⟩⟩
      · by_cases k3 : ki (nI (q * 6 + k)).toNatClampNeg = 3
        · obtain ⟨r, hX, hY⟩ := ih (k + 1) (a + 5) (by omega)
          exact ⟨r, fun post hp => ⟨hi, br_f hx ⟨ix, nm_r ek (br_f k0 (br_f k2 (br_t k3 (nm_e (nm_r (nI_1 k) (hX post hp))))))⟩⟩, fun post hp => ⟨hi, br_f hy ⟨iy, br_f k0 ⟨iy, br_f k2 ⟨iy, br_t k3 (nm_e (nm_r e1 (hY post hp)))⟩⟩⟩⟩⟩
        · obtain ⟨r, hX, hY⟩ := ih (k + 1) a (by omega)
          exact ⟨r, fun post hp => ⟨hi, br_f hx ⟨ix, nm_r ek (br_f k0 (br_f k2 (br_f k3 (nm_r (nI_1 k) (hX post hp)))))⟩⟩, fun post hp => ⟨hi, br_f hy ⟨iy, br_f k0 ⟨iy, br_f k2 ⟨iy, br_f k3 (nm_r e1 (hY post hp))⟩⟩⟩⟩⟩
theorem pb_score (qc : Int32) (wc : Nat) (nu : Int32) (st le cl ki fi se wo : Nat → Int32) (hw : wc ≤ 16) (hc : ∀ q, q < 12 → ∃ c : Nat, c ≤ 6 ∧ cl q = nI c) (q : Nat) (hq : q < 12) : ∃ r : Int32, (∀ post : Int32 → Prop, post r → wpX_scoreOf post (qc, nI wc, nu, st, le, cl, ki, fi, se, wo) (nI q)) ∧ (∀ post : Int32 → Prop, post r → wpY_scoreOf post (nI wc, nu, st, le, cl, ki, fi, se, wo) (nI q)) := by
  obtain ⟨c, h6, e⟩ := hc q hq
  obtain ⟨r, hX, hY⟩ := pb_score_l qc wc nu st le cl ki fi se wo hw q c hq h6 (by rw [nI_clamp (by omega)]; exact e) c 0 0 (by omega)
  exact ⟨r, fun post hp => nm_r (pa_m6 q) ⟨_, hX post hp⟩, fun post hp => nm_r (pa_m6 q) ⟨_, hY post hp⟩⟩
theorem pb_match_l (qc : Int32) (wc : Nat) (nu : Int32) (st le cl ki fi se wo : Nat → Int32) (hw : wc ≤ 16) (q c : Nat) (hq : q < 12) (h6 : c ≤ 6) (e : cl (nI q).toNatClampNeg = nI c) : ∀ (d k : Nat) (a : Int32), k + d = c → ∃ r : Int32, (r = 0 ∨ r = 1) ∧ (∀ post : Int32 → Prop, post r → wX_isMatch_20 post (nI q) (nI (q * 6)) qc (nI wc) nu st le cl ki fi se wo (d + 1) a (nI k)) ∧ (∀ post : Int32 → Prop, post r → wY_matchesQuery_17 post (nI q) (nI wc) nu st le cl ki fi se wo (d + 1) a (nI (q * 6 + k))) := by
  have hi := pa_in12 hq
  intro d
  induction d with
  | zero =>
    intro k a hk
    have hx : cl (nI q).toNatClampNeg ≤ nI k := by rw [e]; exact nI_le (by omega) (by omega)
    have hy : nI q * 6 + cl (nI q).toNatClampNeg ≤ nI (q * 6 + k) := by rw [e, pa_m6, nI_add]; exact nI_le (by omega) (by omega)
    by_cases g : a < le (nI q).toNatClampNeg
    · exact ⟨0, Or.inl rfl, fun _ hp => ⟨hi, br_t hx ⟨hi, br_t g hp⟩⟩, fun _ hp => ⟨hi, br_t hy ⟨hi, br_t g hp⟩⟩⟩
    · exact ⟨1, Or.inr rfl, fun _ hp => ⟨hi, br_t hx ⟨hi, br_f g hp⟩⟩, fun _ hp => ⟨hi, br_t hy ⟨hi, br_f g hp⟩⟩⟩
  | succ d ih =>
    intro k a hk
    have hx : ¬ cl (nI q).toNatClampNeg ≤ nI k := by rw [e]; exact nI_ge (by omega) (by omega)
    have hy : ¬ nI q * 6 + cl (nI q).toNatClampNeg ≤ nI (q * 6 + k) := by rw [e, pa_m6, nI_add]; exact nI_ge (by omega) (by omega)
    have eS : nI (q * 6) + nI k = nI (q * 6 + k) := nI_add _ _
    have iy : vp_in (nI (q * 6 + k)) 72 := vp_in_nI (by omega) (by omega)
    have ix : vp_in (nI (q * 6) + nI k) 72 := by rw [eS]; exact iy
    have e1 : nI (q * 6 + k) + 1 = nI (q * 6 + (k + 1)) := nI_1 _
    obtain ⟨s, hs, tX', tY⟩ := pb_holds qc wc nu st le cl ki fi se wo hw (q * 6 + k) (by omega)
    have tX : ∀ post : Int32 → Prop, post s → wpX_clauseHolds post (qc, nI wc, nu, st, le, cl, ki, fi, se, wo) (nI (q * 6) + nI k) := by rw [eS]; exact tX'
    by_cases k2 : ki (nI (q * 6 + k)).toNatClampNeg = 2
    · have k2x : ki (nI (q * 6) + nI k).toNatClampNeg = 2 := by rw [eS]; exact k2
      by_cases z : s = 0
      · obtain ⟨r, hr, hX, hY⟩ := ih (k + 1) a (by omega)
        exact ⟨r, hr, fun post hp => ⟨hi, br_f hx (tX _ ⟨ix, br_t k2x (br_t z (nm_r (pa_z a) (nm_r (nI_1 k) (hX post hp))))⟩)⟩, fun post hp => ⟨hi, br_f hy (tY _ ⟨iy, br_t k2 (br_t z (nm_r e1 (hY post hp)))⟩)⟩⟩
      · obtain ⟨r, hr, hX, hY⟩ := ih (k + 1) (a + 1) (by omega)
        exact ⟨r, hr, fun post hp => ⟨hi, br_f hx (tX _ ⟨ix, br_t k2x (br_f z (nm_e (nm_r (nI_1 k) (hX post hp))))⟩)⟩, fun post hp => ⟨hi, br_f hy (tY _ ⟨iy, br_t k2 (br_f z (nm_e (nm_r e1 (hY post hp))))⟩)⟩⟩
    · have k2x : ¬ ki (nI (q * 6) + nI k).toNatClampNeg = 2 := by rw [eS]; exact k2
      by_cases z : s = 0
      · exact ⟨0, Or.inl rfl, fun post hp => ⟨hi, br_f hx (tX _ ⟨ix, br_f k2x (br_t z hp)⟩)⟩, fun post hp => ⟨hi, br_f hy (tY _ ⟨iy, br_f k2 (br_t z hp)⟩)⟩⟩
      · obtain ⟨r, hr, hX, hY⟩ := ih (k + 1) a (by omega)
        exact ⟨r, hr, fun post hp => ⟨hi, br_f hx (tX _ ⟨ix, br_f k2x (br_f z (nm_r (nI_1 k) (hX post hp)))⟩)⟩, fun post hp => ⟨hi, br_f hy (tY _ ⟨iy, br_f k2 (br_f z (nm_r e1 (hY post hp)))⟩)⟩⟩
/-- any number: it is a match, or not: one answer -/
theorem pb_match (qc : Int32) (wc : Nat) (nu : Int32) (st le cl ki fi se wo : Nat → Int32) (hw : wc ≤ 16) (hc : ∀ q, q < 12 → ∃ c : Nat, c ≤ 6 ∧ cl q = nI c) (x : Int32) : ∃ r : Int32, (r = 0 ∨ r = 1) ∧ (∀ post : Int32 → Prop, post r → wpX_isMatch post (qc, nI wc, nu, st, le, cl, ki, fi, se, wo) x) ∧ (∀ post : Int32 → Prop, post r → wpY_matchesQuery post (nI wc, nu, st, le, cl, ki, fi, se, wo) x) := by
  obtain ⟨s, hs, sX, sY⟩ := pb_stored qc wc nu st le cl ki fi se wo x
  rcases hs with z | ⟨z, q, hq, rfl, _⟩
  · refine ⟨0, Or.inl rfl, fun post hp => ?_, fun post hp => ?_⟩
    · unfold wpX_isMatch
      exact sX _ (br_t z hp)
    · unfold wpY_matchesQuery
      exact sY _ (br_t z hp)
  · obtain ⟨c, h6, e⟩ := hc q hq
    obtain ⟨r, hr, hX, hY⟩ := pb_match_l qc wc nu st le cl ki fi se wo hw q c hq h6 (by rw [nI_clamp (by omega)]; exact e) c 0 0 (by omega)
    refine ⟨r, hr, fun post hp => ?_, fun post hp => ?_⟩
    · unfold wpX_isMatch
      exact sX _ (br_f z (nm_r (pa_m6 q) ⟨_, hX post hp⟩))
    · unfold wpY_matchesQuery
      exact sY _ (br_f z (nm_r (pa_m6 q) ⟨_, hY post hp⟩))
end
section
theorem pb_le12 {j : Nat} (h : j = 12) : (12 : Int32) ≤ nI j := by rw [h, pa_12]; decide
theorem pb_nle12 {j : Nat} (h : j < 12) : ¬ (12 : Int32) ≤ nI j := by rw [← pa_12]; exact nI_ge h (by omega)
theorem pb_matches_l (qc : Int32) (wc : Nat) (nu : Int32) (st le cl ki fi se wo : Nat → Int32) (hw : wc ≤ 16) (hc : ∀ q, q < 12 → ∃ c : Nat, c ≤ 6 ∧ cl q = nI c) : ∀ (d j : Nat) (a : Int32), j + d = 12 → ∃ r : Int32, (∀ post : Int32 → Prop, post r → wX_matches_4 post qc (nI wc) nu st le cl ki fi se wo (d + 1) a (nI j)) ∧ (∀ post : Int32 → Prop, post r → wY_matches_4 post (nI wc) nu st le cl ki fi se wo (d + 1) a (nI j)) := by
  intro d
  induction d with
  | zero =>
    intro j a hj
    have h := pb_le12 (j := j) (by omega)
    exact ⟨a, fun _ hp => br_t h hp, fun _ hp => br_t h hp⟩
  | succ d ih =>
    intro j a hj
    have h := pb_nle12 (j := j) (by omega)
    obtain ⟨m, _, mX, mY⟩ := pb_match qc wc nu st le cl ki fi se wo hw hc (nI j)
    by_cases z : m = 0
    · obtain ⟨r, hX, hY⟩ := ih (j + 1) a (by omega)
      exact ⟨r, fun post hp => br_f h (mX _ (br_t z (nm_r (nI_1 j) (hX post hp)))), fun post hp => br_f h (mY _ (br_t z (nm_r (nI_1 j) (hY post hp))))⟩
    · obtain ⟨r, hX, hY⟩ := ih (j + 1) (a + 1) (by omega)
      exact ⟨r, fun post hp => br_f h (mX _ (br_f z (nm_e (nm_r (nI_1 j) (hX post hp))))), fun post hp => br_f h (mY _ (br_f z (nm_e (nm_r (nI_1 j) (hY post hp)))))⟩
theorem pb_matches (qc : Int32) (wc : Nat) (nu : Int32) (st le cl ki fi se wo : Nat → Int32) (hw : wc ≤ 16) (hc : ∀ q, q < 12 → ∃ c : Nat, c ≤ 6 ∧ cl q = nI c) : ∃ r : Int32, (∀ post : Int32 → Prop, post r → wpX_matches post (qc, nI wc, nu, st, le, cl, ki, fi, se, wo)) ∧ (∀ post : Int32 → Prop, post r → wpY_matches post (nI wc, nu, st, le, cl, ki, fi, se, wo)) := by
  obtain ⟨r, hX, hY⟩ := pb_matches_l qc wc nu st le cl ki fi se wo hw hc 12 0 0 (by omega)
  exact ⟨r, fun post hp => ⟨_, hX post hp⟩, fun post hp => ⟨_, hY post hp⟩⟩
theorem pb_ahead_l (qc : Int32) (wc : Nat) (nu : Int32) (st le cl ki fi se wo : Nat → Int32) (hw : wc ≤ 16) (hc : ∀ q, q < 12 → ∃ c : Nat, c ≤ 6 ∧ cl q = nI c) (q : Nat) (s : Int32) (sY : ∀ post : Int32 → Prop, post s → wpY_scoreOf post (nI wc, nu, st, le, cl, ki, fi, se, wo) (nI q)) : ∀ (d j : Nat) (a : Int32), j + d = 12 → ∃ r : Int32, (∀ post : Int32 → Prop, post r → wX_matchesAhead_11 post (nI q) s qc (nI wc) nu st le cl ki fi se wo (d + 1) a (nI j)) ∧ (∀ post : Int32 → Prop, post r → wY_before_4 post (nI q) (nI wc) nu st le cl ki fi se wo (d + 1) a (nI j)) := by
  intro d
  induction d with
  | zero =>
    intro j a hj
    have h := pb_le12 (j := j) (by omega)
    exact ⟨a, fun _ hp => br_t h hp, fun _ hp => br_t h hp⟩
  | succ d ih =>
    intro j a hj
    have h := pb_nle12 (j := j) (by omega)
    obtain ⟨m, _, mX, mY⟩ := pb_match qc wc nu st le cl ki fi se wo hw hc (nI j)
    obtain ⟨t, tX, tY⟩ := pb_score qc wc nu st le cl ki fi se wo hw hc j (by omega)
    have c45 : ∀ (post : Int32 → Prop) (J : Int32 → Int32 → Prop), J a (nI (j + 1)) → wY_before_45 post J (nI q) a (nI j) (nI wc) nu st le cl ki fi se wo := by
      intro post J hJ
      unfold wY_before_45 wY_before_46
      exact br_t rfl (nm_r (nI_1 j) hJ)
    have c41 : ∀ (post : Int32 → Prop) (J : Int32 → Int32 → Prop), (m = 0 → J a (nI (j + 1))) → (¬ m = 0 → J (a + 1) (nI (j + 1))) → wY_before_41 post J (nI q) a (nI j) (nI wc) nu st le cl ki fi se wo := by
      intro post J h1 h2
      unfold wY_before_41 wY_before_46
      exact br_f (by decide) (mY _ (br_c (fun z => nm_r (nI_1 j) (h1 z)) (fun z => nm_e (nm_r (nI_1 j) (h2 z)))))
    by_cases z : m = 0
    · obtain ⟨r, hX, hY⟩ := ih (j + 1) a (by omega)
      refine ⟨r, fun post hp => br_f h (mX _ (br_t z (nm_r (nI_1 j) (hX post hp)))), fun post hp => br_f h (tY _ (sY _ ?_))⟩
      exact br_c (fun _ => c41 _ _ (fun _ => hY post hp) (fun n => absurd z n)) (fun _ => tY _ (sY _ (br_c (fun _ => br_c (fun _ => c45 _ _ (hY post hp)) (fun _ => c41 _ _ (fun _ => hY post hp) (fun n => absurd z n))) (fun _ => c45 _ _ (hY post hp)))))
    · by_cases g : s < t
      · obtain ⟨r, hX, hY⟩ := ih (j + 1) (a + 1) (by omega)
        exact ⟨r, fun post hp => br_f h (mX _ (br_f z (tX _ (br_t g (nm_e (nm_r (nI_1 j) (hX post hp))))))), fun post hp => br_f h (tY _ (sY _ (br_t g (c41 _ _ (fun n => absurd n z) (fun _ => hY post hp)))))⟩
      · by_cases e : t = s
        · by_cases l : nI q ≤ nI j
          · obtain ⟨r, hX, hY⟩ := ih (j + 1) a (by omega)
            exact ⟨r, fun post hp => br_f h (mX _ (br_f z (tX _ (br_f g (br_t e (br_t l (nm_r (nI_1 j) (hX post hp)))))))), fun post hp => br_f h (tY _ (sY _ (br_f g (tY _ (sY _ (br_t e (br_t l (c45 _ _ (hY post hp)))))))))⟩
          · obtain ⟨r, hX, hY⟩ := ih (j + 1) (a + 1) (by omega)
            exact ⟨r, fun post hp => br_f h (mX _ (br_f z (tX _ (br_f g (br_t e (br_f l (nm_e (nm_r (nI_1 j) (hX post hp))))))))), fun post hp => br_f h (tY _ (sY _ (br_f g (tY _ (sY _ (br_t e (br_f l (c41 _ _ (fun n => absurd n z) (fun _ => hY post hp)))))))))⟩
        · obtain ⟨r, hX, hY⟩ := ih (j + 1) a (by omega)
          exact ⟨r, fun post hp => br_f h (mX _ (br_f z (tX _ (br_f g (br_f e (nm_r (nI_1 j) (hX post hp))))))), fun post hp => br_f h (tY _ (sY _ (br_f g (tY _ (sY _ (br_f e (c45 _ _ (hY post hp))))))))⟩
theorem pb_ahead (qc : Int32) (wc : Nat) (nu : Int32) (st le cl ki fi se wo : Nat → Int32) (hw : wc ≤ 16) (hc : ∀ q, q < 12 → ∃ c : Nat, c ≤ 6 ∧ cl q = nI c) (q : Nat) (hq : q < 12) : ∃ r : Int32, (∀ post : Int32 → Prop, post r → wpX_matchesAhead post (qc, nI wc, nu, st, le, cl, ki, fi, se, wo) (nI q)) ∧ (∀ post : Int32 → Prop, post r → wpY_before post (nI wc, nu, st, le, cl, ki, fi, se, wo) (nI q)) := by
  obtain ⟨s, sX, sY⟩ := pb_score qc wc nu st le cl ki fi se wo hw hc q hq
  obtain ⟨r, hX, hY⟩ := pb_ahead_l qc wc nu st le cl ki fi se wo hw hc q s sY 12 0 0 (by omega)
  refine ⟨r, fun post hp => ?_, fun post hp => ⟨_, hY post hp⟩⟩
  unfold wpX_matchesAhead
  exact sX _ ⟨_, hX post hp⟩
theorem pb_rank_l (qc : Int32) (wc : Nat) (nu : Int32) (st le cl ki fi se wo : Nat → Int32) (hw : wc ≤ 16) (hc : ∀ q, q < 12 → ∃ c : Nat, c ≤ 6 ∧ cl q = nI c) (x : Int32) : ∀ (d j : Nat), j + d = 12 → ∃ r : Int32, (r = -5 ∨ ∃ q : Nat, q < 12 ∧ r = nI q) ∧ (∀ post : Int32 → Prop, post r → wX_queryAtRank_2 post x qc (nI wc) nu st le cl ki fi se wo (d + 1) (nI j)) ∧ (∀ post : Int32 → Prop, post r → wY_match_2 post x (nI wc) nu st le cl ki fi se wo (d + 1) (nI j)) := by
  intro d
  induction d with
  | zero =>
    intro j hj
    have h := pb_le12 (j := j) (by omega)
    exact ⟨-5, Or.inl rfl, fun _ hp => br_t h hp, fun _ hp => br_t h hp⟩
  | succ d ih =>
    intro j hj
    have h := pb_nle12 (j := j) (by omega)
    obtain ⟨m, _, mX, mY⟩ := pb_match qc wc nu st le cl ki fi se wo hw hc (nI j)
    by_cases z : m = 0
    · obtain ⟨r, hr, hX, hY⟩ := ih (j + 1) (by omega)
      exact ⟨r, hr, fun post hp => br_f h (mX _ (br_t z (nm_r (nI_1 j) (hX post hp)))), fun post hp => br_f h (mY _ (br_t z (nm_r (nI_1 j) (hY post hp))))⟩
    · obtain ⟨b, bX, bY⟩ := pb_ahead qc wc nu st le cl ki fi se wo hw hc j (by omega)
      by_cases e : b = x
      · exact ⟨nI j, Or.inr ⟨j, by omega, rfl⟩, fun post hp => br_f h (mX _ (br_f z (bX _ (br_t e hp)))), fun post hp => br_f h (mY _ (br_f z (bY _ (br_t e hp))))⟩
      · obtain ⟨r, hr, hX, hY⟩ := ih (j + 1) (by omega)
        exact ⟨r, hr, fun post hp => br_f h (mX _ (br_f z (bX _ (br_f e (nm_r (nI_1 j) (hX post hp)))))), fun post hp => br_f h (mY _ (br_f z (bY _ (br_f e (nm_r (nI_1 j) (hY post hp))))))⟩
theorem pb_rank (qc : Int32) (wc : Nat) (nu : Int32) (st le cl ki fi se wo : Nat → Int32) (hw : wc ≤ 16) (hc : ∀ q, q < 12 → ∃ c : Nat, c ≤ 6 ∧ cl q = nI c) (x : Int32) : ∃ r : Int32, (r = -5 ∨ ∃ q : Nat, q < 12 ∧ r = nI q) ∧ (∀ post : Int32 → Prop, post r → wpX_queryAtRank post (qc, nI wc, nu, st, le, cl, ki, fi, se, wo) x) ∧ (∀ post : Int32 → Prop, post r → wpY_match post (nI wc, nu, st, le, cl, ki, fi, se, wo) x) := by
  obtain ⟨r, hr, hX, hY⟩ := pb_rank_l qc wc nu st le cl ki fi se wo hw hc x 12 0 (by omega)
  exact ⟨r, hr, fun post hp => ⟨_, hX post hp⟩, fun post hp => ⟨_, hY post hp⟩⟩
end
section
theorem pc_upd {cl : Nat → Int32} {p c : Nat} {x : Int32} (hc : ∀ q, q < 12 → ∃ c : Nat, c ≤ 6 ∧ cl q = nI c) (h6 : c ≤ 6) (hx : x = nI c) : ∀ q, q < 12 → ∃ c : Nat, c ≤ 6 ∧ upd cl p x q = nI c := by
  intro q hq
  by_cases e : q = p
  · subst e
    exact ⟨c, h6, by rw [pk_us, hx]⟩
  · obtain ⟨c', h6', e'⟩ := hc q hq
    exact ⟨c', h6', by rw [pk_un e, e']⟩
/-- a clause more for a stored query -/
theorem pc_clause (qc : Int32) (wc : Nat) (nu : Int32) (st le cl ki fi se wo : Nat → Int32) (hc : ∀ q, q < 12 → ∃ c : Nat, c ≤ 6 ∧ cl q = nI c) (k a b : Int32) (q : Nat) (hq : q < 12) (s : Int32) (hs : ¬ s = 0) (sX : ∀ post : Int32 → Prop, post s → wpX_isStored post (qc, nI wc, nu, st, le, cl, ki, fi, se, wo) (nI q)) : ∃ (r : Int32) (cl' ki' fi' se' : Nat → Int32), (∀ q, q < 12 → ∃ c : Nat, c ≤ 6 ∧ cl' q = nI c) ∧ (∀ post : Int32 → SX → Prop, post r (qc, nI wc, nu, st, le, cl', ki', fi', se', wo) → wpX_addClause post (qc, nI wc, nu, st, le, cl, ki, fi, se, wo) (nI q) k a b) ∧ (∀ post : Int32 → SY → Prop, post r (nI wc, nu, st, le, cl', ki', fi', se', wo) → wY_add_35 post (nI q) k a b (nI wc) nu st le cl ki fi se wo) := by
  have hi := pa_in12 hq
  obtain ⟨c, h6, e⟩ := hc q hq
  have e' : cl (nI q).toNatClampNeg = nI c := by rw [nI_clamp (by omega)]; exact e
  by_cases g : c = 6
  · have lt : ¬ cl (nI q).toNatClampNeg < 6 := by rw [e', g, pa_6]; decide
    have eq : cl (nI q).toNatClampNeg = 6 := by rw [e', g, pa_6]
    refine ⟨-3, cl, ki, fi, se, hc, fun post hp => ?_, fun post hp => ⟨hi, br_t eq hp⟩⟩
    unfold wpX_addClause
    exact sX _ (br_f hs ⟨hi, br_f lt hp⟩)
  · have lt : cl (nI q).toNatClampNeg < 6 := by rw [e', ← pa_6]; exact nI_lt (by omega) (by omega)
    have eq : ¬ cl (nI q).toNatClampNeg = 6 := by rw [e', ← pa_6, nI_eq (by omega) (by omega)]; exact g
    have ea : nI q * 6 + cl (nI q).toNatClampNeg = nI (q * 6 + c) := by rw [e', pa_m6, nI_add]
    have i7 : vp_in (nI (q * 6 + c)) 72 := vp_in_nI (by omega) (by omega)
    refine ⟨upd cl (nI q).toNatClampNeg (cl (nI q).toNatClampNeg + 1) (nI q).toNatClampNeg, upd cl (nI q).toNatClampNeg (cl (nI q).toNatClampNeg + 1), upd ki (nI (q * 6 + c)).toNatClampNeg k, upd fi (nI (q * 6 + c)).toNatClampNeg a, upd se (nI (q * 6 + c)).toNatClampNeg b, ?_, fun post hp => ?_, fun post hp => ?_⟩
    · exact pc_upd hc (c := c + 1) (by omega) (by rw [e', nI_1])
    · unfold wpX_addClause
      exact sX _ (br_f hs ⟨hi, br_t lt ⟨hi, nm_r ea ⟨i7, nm_e ⟨i7, nm_e ⟨i7, nm_e ⟨hi, hi, nm_e ⟨hi, hp⟩⟩⟩⟩⟩⟩⟩)
    · exact ⟨hi, br_f eq ⟨hi, nm_r ea ⟨i7, nm_e ⟨i7, nm_e ⟨i7, nm_e ⟨hi, hi, nm_e ⟨hi, hp⟩⟩⟩⟩⟩⟩⟩
theorem pc_term (qc : Int32) (wc : Nat) (nu : Int32) (st le cl ki fi se wo : Nat → Int32) (hc : ∀ q, q < 12 → ∃ c : Nat, c ≤ 6 ∧ cl q = nI c) (k : Int32) (hk : ¬ 3 < k) (x a b : Int32) : ∃ (r : Int32) (cl' ki' fi' se' : Nat → Int32), (∀ q, q < 12 → ∃ c : Nat, c ≤ 6 ∧ cl' q = nI c) ∧ (∀ post : Int32 → SX → Prop, post r (qc, nI wc, nu, st, le, cl', ki', fi', se', wo) → wpX_addTermClause post (qc, nI wc, nu, st, le, cl, ki, fi, se, wo) x k a b) ∧ (∀ post : Int32 → SY → Prop, post r (nI wc, nu, st, le, cl', ki', fi', se', wo) → wpY_add post (nI wc, nu, st, le, cl, ki, fi, se, wo) x k a b) := by
  obtain ⟨s, hs, sX, sY⟩ := pb_stored qc wc nu st le cl ki fi se wo x
  rcases hs with z | ⟨z, q, hq, rfl, _⟩
  · refine ⟨-1, cl, ki, fi, se, hc, fun post hp => ?_, fun post hp => ?_⟩
    · unfold wpX_addTermClause
      exact sX _ (br_t z hp)
    · unfold wpY_add
      exact sY _ (br_t z hp)
  · obtain ⟨t, tX, tY⟩ := pb_term qc wc nu st le cl ki fi se wo a
    obtain ⟨v, vX, vY⟩ := pb_term qc wc nu st le cl ki fi se wo b
    by_cases zt : t = 0
    · refine ⟨-2, cl, ki, fi, se, hc, fun post hp => ?_, fun post hp => ?_⟩
      · unfold wpX_addTermClause
        exact sX _ (br_f z (tX _ (br_t zt hp)))
      · unfold wpY_add
        exact sY _ (br_f z (br_f hk (tY _ (br_t zt hp))))
    · by_cases zv : v = 0
      · refine ⟨-2, cl, ki, fi, se, hc, fun post hp => ?_, fun post hp => ?_⟩
        · unfold wpX_addTermClause
          exact sX _ (br_f z (tX _ (br_f zt (vX _ (br_t zv hp)))))
        · unfold wpY_add
          exact sY _ (br_f z (br_f hk (tY _ (br_f zt (vY _ (br_t zv hp))))))
      · obtain ⟨r, cl', ki', fi', se', hc', cX, cY⟩ := pc_clause qc wc nu st le cl ki fi se wo hc k a b q hq s z sX
        refine ⟨r, cl', ki', fi', se', hc', fun post hp => ?_, fun post hp => ?_⟩
        · unfold wpX_addTermClause
          exact sX _ (br_f z (tX _ (br_f zt (vX _ (br_f zv (cX _ hp))))))
        · unfold wpY_add
          exact sY _ (br_f z (br_f hk (tY _ (br_f zt (vY _ (br_f zv (cY _ hp)))))))
theorem pc_range (qc : Int32) (wc : Nat) (nu : Int32) (st le cl ki fi se wo : Nat → Int32) (hc : ∀ q, q < 12 → ∃ c : Nat, c ≤ 6 ∧ cl q = nI c) (x a b : Int32) : ∃ (r : Int32) (cl' ki' fi' se' : Nat → Int32), (∀ q, q < 12 → ∃ c : Nat, c ≤ 6 ∧ cl' q = nI c) ∧ (∀ post : Int32 → SX → Prop, post r (qc, nI wc, nu, st, le, cl', ki', fi', se', wo) → wpX_addClause post (qc, nI wc, nu, st, le, cl, ki, fi, se, wo) x 4 a b) ∧ (∀ post : Int32 → SY → Prop, post r (nI wc, nu, st, le, cl', ki', fi', se', wo) → wpY_add post (nI wc, nu, st, le, cl, ki, fi, se, wo) x 4 a b) := by
  obtain ⟨s, hs, sX, sY⟩ := pb_stored qc wc nu st le cl ki fi se wo x
  rcases hs with z | ⟨z, q, hq, rfl, _⟩
  · refine ⟨-1, cl, ki, fi, se, hc, fun post hp => ?_, fun post hp => ?_⟩
    · unfold wpX_addClause
      exact sX _ (br_t z hp)
    · unfold wpY_add
      exact sY _ (br_t z hp)
  · obtain ⟨r, cl', ki', fi', se', hc', cX, cY⟩ := pc_clause qc wc nu st le cl ki fi se wo hc 4 a b q hq s z sX
    refine ⟨r, cl', ki', fi', se', hc', cX, fun post hp => ?_⟩
    unfold wpY_add
    exact sY _ (br_f z (br_t (by decide) (cY _ hp)))
theorem pc_left (wc : Nat) (nu : Int32) (st le cl ki fi se wo : Nat → Int32) : ∀ d j : Nat, j + d = 12 → ∀ post : Int32 → SY → Prop, post (nI (pa_ct st 12)) (nI wc, nu, st, le, cl, ki, fi, se, wo) → wY_remove_21 post (nI wc) nu st le cl ki fi se wo (d + 1) (nI (pa_ct st j)) (nI j) := by
  intro d
  induction d with
  | zero =>
    intro j hj post hp
    obtain rfl : j = 12 := by omega
    exact br_t (pb_le12 rfl) hp
  | succ d ih =>
    intro j hj post hp
    have h := pb_nle12 (j := j) (by omega)
    have hi := pa_in12 (q := j) (by omega)
    have i := ih (j + 1) (by omega) post hp
    have ej : (nI j).toNatClampNeg = j := nI_clamp (by omega)
    by_cases z : st (nI j).toNatClampNeg = 0
    · have e : pa_ct st (j + 1) = pa_ct st j := by rw [pa_ct_s, pa_bz (by rw [ej] at z; exact z), Nat.add_zero]
      rw [e] at i
      exact br_f h ⟨hi, br_t z (nm_r (nI_1 j) i)⟩
    · have e : pa_ct st (j + 1) = pa_ct st j + 1 := by rw [pa_ct_s, pa_b1 (by rw [ej] at z; exact z)]
      rw [e] at i
      exact br_f h ⟨hi, br_f z (nm_r (nI_1 _) (nm_r (nI_1 j) i))⟩
theorem pc_create_l (wc : Nat) (nu : Int32) (st le cl ki fi se wo : Nat → Int32) (hc : ∀ q, q < 12 → ∃ c : Nat, c ≤ 6 ∧ cl q = nI c) (x : Int32) : ∀ d j : Nat, j + d = 12 → ∃ (r : Int32) (st' le' cl' : Nat → Int32), (∀ q, q < 12 → ∃ c : Nat, c ≤ 6 ∧ cl' q = nI c) ∧ (∀ post : Int32 → SX → Prop, post r (nI (pa_ct st' 12), nI wc, nu, st', le', cl', ki, fi, se, wo) → wX_create_15 post x (nI (pa_ct st 12)) (nI wc) nu st le cl ki fi se wo (d + 1) (nI j)) ∧ (∀ post : Int32 → SY → Prop, post r (nI wc, nu, st', le', cl', ki, fi, se, wo) → wY_create_15 post x (nI wc) nu st le cl ki fi se wo (d + 1) (nI j)) := by
  intro d
  induction d with
  | zero =>
    intro j hj
    have h := pb_le12 (j := j) (by omega)
    exact ⟨-3, st, le, cl, hc, fun _ hp => br_t h hp, fun _ hp => br_t h hp⟩
  | succ d ih =>
    intro j hj
    have h := pb_nle12 (j := j) (by omega)
    have hi := pa_in12 (q := j) (by omega)
    have ej : (nI j).toNatClampNeg = j := nI_clamp (by omega)
    by_cases z : st (nI j).toNatClampNeg = 0
    · have e1 : upd st (nI j).toNatClampNeg (vp_nar .boolean 1) = upd st j 1 := by rw [ej, pa_v1]
      have e2 : nI (pa_ct st 12) + 1 = nI (pa_ct (upd st j 1) 12) := by
        have q := pa_ct_hi (st := st) (q := j) (x := 1) 12 (by omega)
        rw [pa_bz (by rw [ej] at z; exact z), pa_b1 (x := 1) (by decide)] at q
        rw [nI_1, ← q, Nat.add_zero]
      refine ⟨nI j, upd st j 1, upd le (nI j).toNatClampNeg x, upd cl (nI j).toNatClampNeg 0, pc_upd hc (c := 0) (by omega) rfl, fun post hp => ?_, fun post hp => ?_⟩
      · exact br_f h ⟨hi, br_t z ⟨hi, nm_r e1 ⟨hi, nm_e ⟨hi, nm_e (nm_r e2 hp)⟩⟩⟩⟩
      · exact br_f h ⟨hi, br_t z ⟨hi, nm_r e1 ⟨hi, nm_e ⟨hi, nm_e hp⟩⟩⟩⟩
    · obtain ⟨r, st', le', cl', hc', hX, hY⟩ := ih (j + 1) (by omega)
      exact ⟨r, st', le', cl', hc', fun post hp => br_f h ⟨hi, br_f z (nm_r (nI_1 j) (hX post hp))⟩, fun post hp => br_f h ⟨hi, br_f z (nm_r (nI_1 j) (hY post hp))⟩⟩
end
section
/-- the two sides hold the same arrays in the same places; the class also keeps how many queries are stored -/
def i_Rel (_ : Nat) (u : SX) (v : SY) : Prop := ∃ (wc : Nat) (nu : Int32) (st le cl ki fi se wo : Nat → Int32), u = (nI (pa_ct st 12), nI wc, nu, st, le, cl, ki, fi, se, wo) ∧ v = (nI wc, nu, st, le, cl, ki, fi, se, wo) ∧ wc ≤ 16 ∧ ∀ q, q < 12 → ∃ c : Nat, c ≤ 6 ∧ cl q = nI c
theorem i_up {k : Nat} {u : SX} {v : SY} (h : i_Rel k u v) : i_Rel (k + 4) u v := h
theorem i_vc0 : wpX_init (fun u => wpY_init (fun v => i_Rel 0 u v)) := by
  refine ⟨0, 0, fun _ => 0, fun _ => 0, fun _ => 0, fun _ => 0, fun _ => 0, fun _ => 0, fun _ => 0, ?_, rfl, by omega, fun q _ => ⟨0, by omega, rfl⟩⟩
  rw [pa_ct_z]
  rfl
theorem i_vc_create {k : Nat} {u : SX} {v : SY} (I : i_Rel k u v) (hk : k + 4 ≤ 2048) (v1 : Int32) : wpX_create (fun r u' => wpY_create (fun r' v' => r' = r ∧ i_Rel (k + 4) u' v') v v1) u v1 := by
  have J := I
  obtain ⟨wc, nu, st, le, cl, ki, fi, se, wo, rfl, rfl, hw, hc⟩ := I
  by_cases h0 : v1 < 0
  · exact br_t h0 (br_t h0 ⟨rfl, i_up J⟩)
  · by_cases h6 : v1 ≤ 6
    · obtain ⟨r, st', le', cl', hc', hX, hY⟩ := pc_create_l wc nu st le cl ki fi se wo hc v1 12 0 rfl
      exact br_f h0 (br_t h6 ⟨_, hX _ (br_f h0 (br_t h6 ⟨_, hY _ ⟨rfl, wc, nu, st', le', cl', ki, fi, se, wo, rfl, rfl, hw, hc'⟩⟩))⟩)
    · exact br_f h0 (br_f h6 (br_f h0 (br_f h6 ⟨rfl, i_up J⟩)))
theorem i_vc_must {k : Nat} {u : SX} {v : SY} (I : i_Rel k u v) (hk : k + 4 ≤ 2048) (v1 : Int32) (v2 : Int32) : wpX_must (fun r u' => wpY_must (fun r' v' => r' = r ∧ i_Rel (k + 4) u' v') v v1 v2) u v1 v2 := by
  obtain ⟨wc, nu, st, le, cl, ki, fi, se, wo, rfl, rfl, hw, hc⟩ := I
  obtain ⟨r, cl', ki', fi', se', hc', hX, hY⟩ := pc_term (nI (pa_ct st 12)) wc nu st le cl ki fi se wo hc 0 (by decide) v1 v2 v2
  unfold wpX_must wpY_must
  refine hX _ ?_
  refine hY _ ?_
  exact ⟨rfl, wc, nu, st, le, cl', ki', fi', se', wo, rfl, rfl, hw, hc'⟩
theorem i_vc_not {k : Nat} {u : SX} {v : SY} (I : i_Rel k u v) (hk : k + 4 ≤ 2048) (v1 : Int32) (v2 : Int32) : wpX_not (fun r u' => wpY_not (fun r' v' => r' = r ∧ i_Rel (k + 4) u' v') v v1 v2) u v1 v2 := by
  obtain ⟨wc, nu, st, le, cl, ki, fi, se, wo, rfl, rfl, hw, hc⟩ := I
  obtain ⟨r, cl', ki', fi', se', hc', hX, hY⟩ := pc_term (nI (pa_ct st 12)) wc nu st le cl ki fi se wo hc 1 (by decide) v1 v2 v2
  unfold wpX_not wpY_not
  refine hX _ ?_
  refine hY _ ?_
  exact ⟨rfl, wc, nu, st, le, cl', ki', fi', se', wo, rfl, rfl, hw, hc'⟩
theorem i_vc_should {k : Nat} {u : SX} {v : SY} (I : i_Rel k u v) (hk : k + 4 ≤ 2048) (v1 : Int32) (v2 : Int32) : wpX_should (fun r u' => wpY_should (fun r' v' => r' = r ∧ i_Rel (k + 4) u' v') v v1 v2) u v1 v2 := by
  obtain ⟨wc, nu, st, le, cl, ki, fi, se, wo, rfl, rfl, hw, hc⟩ := I
  obtain ⟨r, cl', ki', fi', se', hc', hX, hY⟩ := pc_term (nI (pa_ct st 12)) wc nu st le cl ki fi se wo hc 2 (by decide) v1 v2 v2
  unfold wpX_should wpY_should
  refine hX _ ?_
  refine hY _ ?_
  exact ⟨rfl, wc, nu, st, le, cl', ki', fi', se', wo, rfl, rfl, hw, hc'⟩
theorem i_vc_phrase {k : Nat} {u : SX} {v : SY} (I : i_Rel k u v) (hk : k + 4 ≤ 2048) (v1 : Int32) (v2 : Int32) (v3 : Int32) : wpX_phrase (fun r u' => wpY_phrase (fun r' v' => r' = r ∧ i_Rel (k + 4) u' v') v v1 v2 v3) u v1 v2 v3 := by
  obtain ⟨wc, nu, st, le, cl, ki, fi, se, wo, rfl, rfl, hw, hc⟩ := I
  obtain ⟨r, cl', ki', fi', se', hc', hX, hY⟩ := pc_term (nI (pa_ct st 12)) wc nu st le cl ki fi se wo hc 3 (by decide) v1 v2 v3
  unfold wpX_phrase wpY_phrase
  refine hX _ ?_
  refine hY _ ?_
  exact ⟨rfl, wc, nu, st, le, cl', ki', fi', se', wo, rfl, rfl, hw, hc'⟩
theorem i_vc_range {k : Nat} {u : SX} {v : SY} (I : i_Rel k u v) (hk : k + 4 ≤ 2048) (v1 : Int32) (v2 : Int32) (v3 : Int32) : wpX_range (fun r u' => wpY_range (fun r' v' => r' = r ∧ i_Rel (k + 4) u' v') v v1 v2 v3) u v1 v2 v3 := by
  obtain ⟨wc, nu, st, le, cl, ki, fi, se, wo, rfl, rfl, hw, hc⟩ := I
  obtain ⟨r, cl', ki', fi', se', hc', hX, hY⟩ := pc_range (nI (pa_ct st 12)) wc nu st le cl ki fi se wo hc v1 v2 v3
  unfold wpX_range wpY_range
  refine hX _ ?_
  refine hY _ ?_
  exact ⟨rfl, wc, nu, st, le, cl', ki', fi', se', wo, rfl, rfl, hw, hc'⟩
theorem i_vc_remove {k : Nat} {u : SX} {v : SY} (I : i_Rel k u v) (hk : k + 4 ≤ 2048) (v1 : Int32) : wpX_remove (fun r u' => wpY_remove (fun r' v' => r' = r ∧ i_Rel (k + 4) u' v') v v1) u v1 := by
  have J := I
  obtain ⟨wc, nu, st, le, cl, ki, fi, se, wo, rfl, rfl, hw, hc⟩ := I
  obtain ⟨s, hs, sX, sY⟩ := pb_stored (nI (pa_ct st 12)) wc nu st le cl ki fi se wo v1
  unfold wpX_remove wpY_remove
  rcases hs with z | ⟨z, q, hq, rfl, hn⟩
  · refine sX _ (br_t z ?_)
    exact sY _ (br_t z ⟨rfl, i_up J⟩)
  · have hi := pa_in12 hq
    have e1 : upd st (nI q).toNatClampNeg (vp_nar .boolean 0) = upd st q 0 := by rw [nI_clamp (by omega), pa_v0]
    have e2 : nI (pa_ct st 12) - 1 = nI (pa_ct (upd st q 0) 12) := by
      have h := pa_ct_hi (st := st) (q := q) (x := 0) 12 hq
      rw [pa_b1 hn, pa_b0] at h
      have h2 : pa_ct st 12 = pa_ct (upd st q 0) 12 + 1 := h.symm
      rw [h2, nI_pred]
    refine sX _ (br_f z ⟨hi, nm_r e1 (nm_r e2 ?_)⟩)
    refine sY _ (br_f z ⟨hi, nm_r e1 ⟨12 + 1, pc_left wc nu (upd st q 0) le cl ki fi se wo 12 0 rfl _ ?_⟩⟩)
    exact ⟨rfl, wc, nu, upd st q 0, le, cl, ki, fi, se, wo, rfl, rfl, hw, hc⟩
theorem i_vc_word {k : Nat} {u : SX} {v : SY} (I : i_Rel k u v) (hk : k + 4 ≤ 2048) (v1 : Int32) : wpX_word (fun r u' => wpY_word (fun r' v' => r' = r ∧ i_Rel (k + 4) u' v') v v1) u v1 := by
  have J := I
  obtain ⟨wc, nu, st, le, cl, ki, fi, se, wo, rfl, rfl, hw, hc⟩ := I
  obtain ⟨t, tX, tY⟩ := pb_term (nI (pa_ct st 12)) wc nu st le cl ki fi se wo v1
  unfold wpX_word wpY_word
  by_cases z : t = 0
  · refine tX _ (br_t z ?_)
    exact tY _ (br_t z ⟨rfl, i_up J⟩)
  · by_cases g : wc = 16
    · have lt : ¬ nI wc < 16 := by rw [g, pa_16]; decide
      have eq : nI wc = 16 := by rw [g, pa_16]
      refine tX _ (br_f z (br_f lt ?_))
      exact tY _ (br_f z (br_t eq ⟨rfl, i_up J⟩))
    · have lt : nI wc < 16 := by rw [← pa_16]; exact nI_lt (by omega) (by omega)
      have eq : ¬ nI wc = 16 := by rw [← pa_16, nI_eq (by omega) (by omega)]; exact g
      have hi : vp_in (nI wc) 16 := vp_in_nI (by omega) (by omega)
      refine tX _ (br_f z (br_t lt ⟨hi, nm_e (nm_r (nI_1 wc) ?_)⟩))
      refine tY _ (br_f z (br_f eq ⟨hi, nm_e (nm_r (nI_1 wc) ?_)⟩))
      exact ⟨rfl, wc + 1, nu, st, le, cl, ki, fi, se, _, rfl, rfl, by omega, hc⟩
theorem i_vc_document {k : Nat} {u : SX} {v : SY} (I : i_Rel k u v) (hk : k + 4 ≤ 2048) (v1 : Int32) : wpX_document (fun u' => wpY_document (fun v' => i_Rel (k + 4) u' v') v v1) u v1 := by
  obtain ⟨wc, nu, st, le, cl, ki, fi, se, wo, rfl, rfl, hw, hc⟩ := I
  exact ⟨0, v1, st, le, cl, ki, fi, se, wo, rfl, rfl, by omega, hc⟩
theorem i_vc_matches {k : Nat} {u : SX} {v : SY} (I : i_Rel k u v) (hk : k + 4 ≤ 2048) : wpX_matches (fun r => wpY_matches (fun r' => r' = r ∧ i_Rel (k + 4) u v) v) u := by
  have J := I
  obtain ⟨wc, nu, st, le, cl, ki, fi, se, wo, rfl, rfl, hw, hc⟩ := I
  obtain ⟨r, hX, hY⟩ := pb_matches (nI (pa_ct st 12)) wc nu st le cl ki fi se wo hw hc
  exact hX _ (hY _ ⟨rfl, i_up J⟩)
theorem i_vc_match {k : Nat} {u : SX} {v : SY} (I : i_Rel k u v) (hk : k + 4 ≤ 2048) (v1 : Int32) : wpX_match (fun r => wpY_match (fun r' => r' = r ∧ i_Rel (k + 4) u v) v v1) u v1 := by
  have J := I
  obtain ⟨wc, nu, st, le, cl, ki, fi, se, wo, rfl, rfl, hw, hc⟩ := I
  obtain ⟨r, _, hX, hY⟩ := pb_rank (nI (pa_ct st 12)) wc nu st le cl ki fi se wo hw hc v1
  unfold wpX_match
  refine hX _ ?_
  exact hY _ ⟨rfl, i_up J⟩
theorem i_vc_score {k : Nat} {u : SX} {v : SY} (I : i_Rel k u v) (hk : k + 4 ≤ 2048) (v1 : Int32) : wpX_score (fun r => wpY_score (fun r' => r' = r ∧ i_Rel (k + 4) u v) v v1) u v1 := by
  have J := I
  obtain ⟨wc, nu, st, le, cl, ki, fi, se, wo, rfl, rfl, hw, hc⟩ := I
  obtain ⟨r, hr, hX, hY⟩ := pb_rank (nI (pa_ct st 12)) wc nu st le cl ki fi se wo hw hc v1
  unfold wpX_score wpY_score
  rcases hr with z | ⟨q, hq, rfl⟩
  · have n0 : ¬ 0 ≤ r := by rw [z]; decide
    refine hX _ (br_t z ?_)
    exact hY _ (br_f n0 ⟨rfl, i_up J⟩)
  · have p0 : 0 ≤ nI q := nI_pos' (by omega)
    have n5 : ¬ nI q = -5 := by
      intro e
      rw [e] at p0
      exact absurd p0 (by decide)
    obtain ⟨s, sX, sY⟩ := pb_score (nI (pa_ct st 12)) wc nu st le cl ki fi se wo hw hc q hq
    refine hX _ (br_f n5 (sX _ ?_))
    exact hY _ (br_t p0 (sY _ ⟨rfl, i_up J⟩))
theorem i_vc_matchesQuery {k : Nat} {u : SX} {v : SY} (I : i_Rel k u v) (hk : k + 4 ≤ 2048) (v1 : Int32) : wpX_matchesQuery (fun r => wpY_matchesQuery (fun r' => r' = r ∧ i_Rel (k + 4) u v) v v1) u v1 := by
  have J := I
  obtain ⟨wc, nu, st, le, cl, ki, fi, se, wo, rfl, rfl, hw, hc⟩ := I
  obtain ⟨r, hr, hX, hY⟩ := pb_match (nI (pa_ct st 12)) wc nu st le cl ki fi se wo hw hc v1
  unfold wpX_matchesQuery
  refine hX _ ⟨pb_nb hr, ?_⟩
  exact hY _ ⟨rfl, i_up J⟩
end
