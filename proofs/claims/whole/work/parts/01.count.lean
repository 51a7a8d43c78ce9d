/-- pasted from the kit's pure rows: pk_us, pk_un, pk_m1, pk_mul, pk_ix -/
theorem pk_us {f : Nat → Int32} {k : Nat} {x : Int32} : upd f k x k = x := if_pos rfl
theorem pk_un {f : Nat → Int32} {k j : Nat} {x : Int32} (h : j ≠ k) : upd f k x j = f j := if_neg h
theorem pk_mul (a b : Nat) : nI a * nI b = nI (a * b) := (Int32.ofNat_mul a b).symm
theorem pk_m1 (n : Nat) : nI (n + 1) + (-1) = nI n := by
  rw [← nI_1, Int32.add_assoc, show (1 : Int32) + (-1) = 0 from rfl, Int32.add_zero]
/-- 1 for a cell that is not 0 -/
def pa_b (x : Int32) : Nat := if x = 0 then 0 else 1
theorem pa_b0 : pa_b 0 = 0 := rfl
theorem pa_b1 {x : Int32} (h : ¬ x = 0) : pa_b x = 1 := if_neg h
theorem pa_bz {x : Int32} (h : x = 0) : pa_b x = 0 := if_pos h
theorem pa_ble (x : Int32) : pa_b x ≤ 1 := by
  by_cases h : x = 0
  · rw [pa_bz h]; omega
  · rw [pa_b1 h]; omega
/-- how many of the first n cells are not 0 -/
def pa_ct (st : Nat → Int32) : Nat → Nat
  | 0 => 0
  | n + 1 => pa_ct st n + pa_b (st n)
theorem pa_ct_s (st : Nat → Int32) (n : Nat) : pa_ct st (n + 1) = pa_ct st n + pa_b (st n) := rfl
theorem pa_ct_le (st : Nat → Int32) : ∀ n, pa_ct st n ≤ n := by
  intro n
  induction n with
  | zero => exact Nat.le_refl _
  | succ n ih =>
    have h := pa_ble (st n)
    rw [pa_ct_s]
    omega
theorem pa_ct_lo {st : Nat → Int32} {q : Nat} {x : Int32} : ∀ n, n ≤ q → pa_ct (upd st q x) n = pa_ct st n := by
  intro n
  induction n with
  | zero => intro _; rfl
  | succ n ih =>
    intro h
    rw [pa_ct_s, pa_ct_s, ih (by omega), pk_un (by omega)]
theorem pa_ct_hi {st : Nat → Int32} {q : Nat} {x : Int32} : ∀ n, q < n → pa_ct (upd st q x) n + pa_b (st q) = pa_ct st n + pa_b x := by
  intro n
  induction n with
  | zero => intro h; omega
  | succ n ih =>
    intro h
    rw [pa_ct_s, pa_ct_s]
    by_cases e : q = n
    · subst e
      rw [pa_ct_lo q (Nat.le_refl q), pk_us]
      omega
    · have i := ih (by omega)
      rw [pk_un (fun z => e z.symm)]
      omega
theorem pa_ct_z (n : Nat) : pa_ct (fun _ => 0) n = 0 := by
  induction n with
  | zero => rfl
  | succ n ih => rw [pa_ct_s, ih]; rfl
theorem pa_v0 : vp_nar .boolean 0 = 0 := rfl
theorem pa_v1 : vp_nar .boolean 1 = 1 := rfl
theorem pa_n0 : narrow .boolean (.int 0) = .int 0 := rfl
theorem pa_n1 : narrow .boolean (.int 1) = .int 1 := rfl
theorem pa_6 : nI 6 = 6 := by decide +kernel
theorem pa_12 : nI 12 = 12 := by decide +kernel
theorem pa_16 : nI 16 = 16 := by decide +kernel
theorem pa_24 : nI 24 = 24 := by decide +kernel
/-- any number: below 0, 12 or more, or one of the twelve -/
theorem pa_ix (x : Int32) : x < 0 ∨ (¬ x < 0 ∧ 12 ≤ x) ∨ ∃ q : Nat, q < 12 ∧ x = nI q := by
  by_cases h : x < 0
  · exact Or.inl h
  · obtain ⟨j, hj, rfl⟩ := nI_of h
    by_cases h2 : j < 12
    · exact Or.inr (Or.inr ⟨j, h2, rfl⟩)
    · refine Or.inr (Or.inl ⟨h, ?_⟩)
      rw [← pa_12]
      exact nI_le (by omega) hj
theorem pa_lt12 {q : Nat} (h : q < 12) : nI q < 12 := by rw [← pa_12]; exact nI_lt h (by omega)
theorem pa_ge0 {q : Nat} (h : q < 12) : ¬ nI q < 0 := nI_pos (by omega)
theorem pa_in12 {q : Nat} (h : q < 12) : vp_in (nI q) 12 := vp_in_nI h (by omega)
theorem pa_cl {q : Nat} (h : q < 2 ^ 31) : (nI q).toNatClampNeg = q := nI_clamp h
theorem pa_m6 (q : Nat) : nI q * 6 = nI (q * 6) := by rw [← pa_6, pk_mul]
theorem pa_z (x : Int32) : x + 0 = x := Int32.add_zero x
