/-! the prime chosen: powers laid by both -/
def m_X1_isPrime (x : Int32) : Option Int32 := some (if x = 2 ∨ x = 3 ∨ x = 5 ∨ x = 7 ∨ x = 11 ∨ x = 13 ∨ x = 17 ∨ x = 19 ∨ x = 23 ∨ x = 29 ∨ x = 31 then 1 else 0)
def m_X3_prime_30 : Nat → St → Int32 → Option (Int32 × St)
  | 0, _, _ => none
  | n + 1, S, x2 => if (8 : Int32) ≤ x2 then (some ((S.1 1 2), S)) else (if oob x2 8 then none else m_X3_prime_30 n (st_I S 5 x2.toNatClampNeg (0 : Int32)) (x2 + 1))
def m_X3_prime (S : St) (x1 : Int32) : Option (Int32 × St) := (m_X1_isPrime x1).bind (fun r_1 => if r_1 = 0 then (some ((-2 : Int32), S)) else ((m_X1_choose S x1).bind (fun S_3 => m_X3_prime_30 fu (st_I (st_I S_3 0 7 (0 : Int32)) 0 8 (0 : Int32)) (0 : Int32))))
section
variable {S SC SM : St} {p : Int} {K : Nat}
theorem ch_loop (h : pk p K) : ∀ (j n k : Nat) (S : St), k + j = K + 1 → 1 ≤ k → j < n → S.1 1 1 = ji p → S.1 1 2 = ji ((k : Int) - 1) → (∀ i, i < k → S.2 2 i = jl (p ^ i)) → ∃ S1, m_X1_choose_25 n S (ji p) (ji k) = some S1 ∧ fc S1 p K ∧ (∀ q, q ≠ 1 → S1.1 q = S.1 q) ∧ ∀ q, q ≠ 2 → S1.2 q = S.2 q := by
  have hp := pk_p h
  have hK := pk_K h
  have hw := pk_pow h
  intro j
  induction j with
  | zero =>
    intro n k S hk hk1 hn h1 h2 h3
    obtain ⟨n, rfl⟩ : ∃ t, n = t + 1 := ⟨n - 1, by omega⟩
    unfold m_X1_choose_25
    have done : fc S p K := ⟨h1, by rw [h2]; congr 1; omega, fun i hi => h3 i (by omega)⟩
    by_cases c : 60 ≤ k
    · rw [if_pos ((ji_ler (a := k) (c := 60) (b := 60) ⟨by omega, by omega⟩ rfl (by decide)).mpr (by omega))]
      exact ⟨S, rfl, done, fun _ _ => rfl, fun _ _ => rfl⟩
    · have e1 : ji (k : Int) - 1 = ji (k - 1 : Nat) := by rw [show (1 : Int32) = ji 1 from rfl, ji_sub]; congr 1; omega
      have b1 := pw_K h (show k - 1 ≤ K by omega)
      have lt : 1000000000000000000 / p < p ^ (k - 1) := by
        refine (Int.ediv_lt_iff_lt_mul (by omega)).mpr ?_
        rw [← pw_s, show k - 1 + 1 = K + 1 by omega]; exact hw.2
      have d0 : 0 ≤ 1000000000000000000 / p := Int.ediv_nonneg (by omega) (by omega)
      have o1 : ¬ oob (ji ((k - 1 : Nat) : Int)) 60 := by rw [ji_oob ⟨by omega, by omega⟩]; omega
      rw [if_neg (fun q => by have := (ji_ler (a := k) (c := 60) (b := 60) ⟨by omega, by omega⟩ rfl (by decide)).mp q; omega), e1]
      simp only [if_neg o1]
      rw [ji_l ⟨by omega, by omega⟩, if_neg (jl_ne0 ⟨by omega, by omega⟩ (by omega)), ji_nat (z := ((k - 1 : Nat) : Int)) ⟨by omega, by omega⟩, show (((k - 1 : Nat) : Int)).toNat = k - 1 by omega, h3 (k - 1) (by omega), show (1000000000000000000 : Int64) = jl 1000000000000000000 from rfl, jl_div (by decide) (by decide) ⟨by omega, by omega⟩, if_pos ((jl_lt ⟨by omega, by omega⟩ ⟨by omega, by omega⟩).mpr lt)]
      exact ⟨S, rfl, done, fun _ _ => rfl, fun _ _ => rfl⟩
  | succ j ih =>
    intro n k S hk hk1 hn h1 h2 h3
    obtain ⟨n, rfl⟩ : ∃ t, n = t + 1 := ⟨n - 1, by omega⟩
    unfold m_X1_choose_25
    have e1 : ji (k : Int) - 1 = ji (k - 1 : Nat) := by rw [show (1 : Int32) = ji 1 from rfl, ji_sub]; congr 1; omega
    have b1 := pw_K h (show k - 1 ≤ K by omega)
    have b2 := pw_K h (show k ≤ K by omega)
    have lt : ¬ 1000000000000000000 / p < p ^ (k - 1) := by
      intro q
      have := (Int.ediv_lt_iff_lt_mul (by omega)).mp q
      rw [← pw_s, show k - 1 + 1 = k by omega] at this
      omega
    have d0 : 0 ≤ 1000000000000000000 / p := Int.ediv_nonneg (by omega) (by omega)
    have d1 : 1000000000000000000 / p ≤ 1000000000000000000 := Int.ediv_le_self _ (by omega)
    have o1 : ¬ oob (ji ((k - 1 : Nat) : Int)) 60 := by rw [ji_oob ⟨by omega, by omega⟩]; omega
    have o2 : ¬ oob (ji (k : Int)) 60 := by rw [ji_oob ⟨by omega, by omega⟩]; omega
    rw [if_neg (fun q => by have := (ji_ler (a := k) (c := 60) (b := 60) ⟨by omega, by omega⟩ rfl (by decide)).mp q; omega), e1]
    simp only [if_neg o1, if_neg o2]
    rw [ji_l ⟨by omega, by omega⟩, if_neg (jl_ne0 ⟨by omega, by omega⟩ (by omega)), ji_nat (z := ((k - 1 : Nat) : Int)) ⟨by omega, by omega⟩, show (((k - 1 : Nat) : Int)).toNat = k - 1 by omega, h3 (k - 1) (by omega), show (1000000000000000000 : Int64) = jl 1000000000000000000 from rfl, jl_div (by decide) (by decide) ⟨by omega, by omega⟩, if_neg (fun q => lt ((jl_lt ⟨by omega, by omega⟩ ⟨by omega, by omega⟩).mp q)), ji_nat (z := (k : Int)) ⟨by omega, by omega⟩, show ((k : Int)).toNat = k by omega, jl_mul, ← pw_s, show k - 1 + 1 = k by omega, show (1 : Int32) = ji 1 from rfl, ji_add, show ((k : Int) + 1) = ((k + 1 : Nat) : Int) by omega]
    obtain ⟨S1, g1, g2, g3, g4⟩ := ih n (k + 1) (st_I (st_L S 2 k (jl (p ^ k))) 1 2 (ji k)) (by omega) (by omega) (by omega) (by simp [st_I, st_L]; exact h1) (by simp [st_I]) (fun i hi => by
      by_cases q : i = k
      · subst q; simp [st_I, st_L]
      · simp [st_I, st_L, q]; exact h3 i (by omega))
    refine ⟨S1, g1, g2, fun q hq => (g3 q hq).trans ?_, fun q hq => (g4 q hq).trans ?_⟩
    · funext t; simp [st_I, st_L, hq]
    · funext t; simp [st_I, st_L, hq]
theorem cf_choose (h : pk p K) : ∃ S1, m_X1_choose S (ji p) = some S1 ∧ fc S1 p K ∧ (∀ q, q ≠ 1 → S1.1 q = S.1 q) ∧ ∀ q, q ≠ 2 → S1.2 q = S.2 q := by
  have hp := pk_p h
  have hK := pk_K h
  unfold m_X1_choose
  rw [if_pos ((ji_ler (a := p) (c := 2) (b := 2) ⟨by omega, by omega⟩ rfl (by decide)).mpr hp.1), if_neg (by decide), show (0 : Int32).toNatClampNeg = 0 from by decide]
  obtain ⟨S1, g1, g2, g3, g4⟩ := ch_loop h K fu 1 (st_L (st_I (st_I S 1 1 (ji p)) 1 2 (0 : Int32)) 2 0 (1 : Int64)) (by omega) (by omega) (by rw [fu_v]; omega) (by simp [st_I, st_L]) (by simp [st_I, st_L]; rfl) (fun i hi => by
    have : i = 0 := by omega
    subst this
    simp [st_I, st_L]; rfl)
  refine ⟨S1, g1, g2, fun q hq => (g3 q hq).trans ?_, fun q hq => (g4 q hq).trans ?_⟩
  · funext t; simp [st_I, st_L, hq]
  · funext t; simp [st_I, st_L, hq]
theorem po_loop (h : pk p K) : ∀ (j n k : Nat) (S : St), k + j = K → j < n → S.1 0 0 = ji p → S.1 0 1 = ji (k : Int) → (∀ i, i ≤ k → S.2 1 i = jl (p ^ i)) → ∃ S1, m_X4_powers_12 n S = some S1 ∧ fm S1 p K ∧ (∀ q t, ¬ (q = 0 ∧ t = 1) → S1.1 q t = S.1 q t) ∧ ∀ q, q ≠ 1 → S1.2 q = S.2 q := by
  have hp := pk_p h
  have hK := pk_K h
  have hw := pk_pow h
  intro j
  induction j with
  | zero =>
    intro n k S hk hn h1 h2 h3
    obtain ⟨n, rfl⟩ : ∃ t, n = t + 1 := ⟨n - 1, by omega⟩
    unfold m_X4_powers_12
    have b1 := pw_K h (show k ≤ K by omega)
    have lt : 1000000000000000000 / p < p ^ k := by
      refine (Int.ediv_lt_iff_lt_mul (by omega)).mpr ?_
      rw [← pw_s, show k + 1 = K + 1 by omega]; exact hw.2
    have d0 : 0 ≤ 1000000000000000000 / p := Int.ediv_nonneg (by omega) (by omega)
    have o1 : ¬ oob (ji (k : Int)) 64 := by rw [ji_oob ⟨by omega, by omega⟩]; omega
    rw [h1, h2]
    simp only [if_neg o1]
    rw [ji_l ⟨by omega, by omega⟩, if_neg (jl_ne0 ⟨by omega, by omega⟩ (by omega)), ji_nat (z := (k : Int)) ⟨by omega, by omega⟩, show ((k : Int)).toNat = k by omega, h3 k (by omega), show (1000000000000000000 : Int64) = jl 1000000000000000000 from rfl, jl_div (by decide) (by decide) ⟨by omega, by omega⟩, if_pos ((jl_lt ⟨by omega, by omega⟩ ⟨by omega, by omega⟩).mpr lt)]
    exact ⟨S, rfl, ⟨h1, by rw [h2]; congr 1; omega, fun i hi => h3 i (by omega)⟩, fun _ _ _ => rfl, fun _ _ => rfl⟩
  | succ j ih =>
    intro n k S hk hn h1 h2 h3
    obtain ⟨n, rfl⟩ : ∃ t, n = t + 1 := ⟨n - 1, by omega⟩
    unfold m_X4_powers_12
    have b1 := pw_K h (show k ≤ K by omega)
    have b2 := pw_K h (show k + 1 ≤ K by omega)
    have lt : ¬ 1000000000000000000 / p < p ^ k := by
      intro q
      have := (Int.ediv_lt_iff_lt_mul (by omega)).mp q
      rw [← pw_s] at this
      omega
    have d0 : 0 ≤ 1000000000000000000 / p := Int.ediv_nonneg (by omega) (by omega)
    have d1 : 1000000000000000000 / p ≤ 1000000000000000000 := Int.ediv_le_self _ (by omega)
    have e1 : ji (k : Int) + 1 = ji (k + 1 : Nat) := by rw [show (1 : Int32) = ji 1 from rfl, ji_add]; congr 1
    have o1 : ¬ oob (ji (k : Int)) 64 := by rw [ji_oob ⟨by omega, by omega⟩]; omega
    have o2 : ¬ oob (ji ((k + 1 : Nat) : Int)) 64 := by rw [ji_oob ⟨by omega, by omega⟩]; omega
    rw [h1, h2, e1]
    simp only [if_neg o1, if_neg o2]
    rw [ji_l ⟨by omega, by omega⟩, if_neg (jl_ne0 ⟨by omega, by omega⟩ (by omega)), ji_nat (z := (k : Int)) ⟨by omega, by omega⟩, show ((k : Int)).toNat = k by omega, h3 k (by omega), show (1000000000000000000 : Int64) = jl 1000000000000000000 from rfl, jl_div (by decide) (by decide) ⟨by omega, by omega⟩, if_neg (fun q => lt ((jl_lt ⟨by omega, by omega⟩ ⟨by omega, by omega⟩).mp q)), ji_nat (z := ((k + 1 : Nat) : Int)) ⟨by omega, by omega⟩, show (((k + 1 : Nat) : Int)).toNat = k + 1 by omega, jl_mul, ← pw_s, show (st_L S 1 (k + 1) (jl (p ^ (k + 1)))).1 0 1 = ji (k : Int) from h2, e1]
    obtain ⟨S1, g1, g2, g3, g4⟩ := ih n (k + 1) (st_I (st_L S 1 (k + 1) (jl (p ^ (k + 1)))) 0 1 (ji (k + 1 : Nat))) (by omega) (by omega) (by simp [st_I, st_L]; exact h1) (by simp [st_I]) (fun i hi => by
      by_cases q : i = k + 1
      · subst q; simp [st_I, st_L]
      · simp [st_I, st_L, q]; exact h3 i (by omega))
    refine ⟨S1, g1, g2, fun q t hq => (g3 q t hq).trans ?_, fun q hq => (g4 q hq).trans ?_⟩
    · simp only [st_I, st_L]; rw [if_neg hq]
    · funext t; simp [st_I, st_L, hq]
theorem mf_powers (h : pk p K) (h0 : S.1 0 0 = ji p) : ∃ S1, m_X4_powers S = some S1 ∧ fm S1 p K ∧ (∀ q t, ¬ (q = 0 ∧ t = 1) → S1.1 q t = S.1 q t) ∧ ∀ q, q ≠ 1 → S1.2 q = S.2 q := by
  unfold m_X4_powers
  rw [if_neg (by decide), show (0 : Int32).toNatClampNeg = 0 from by decide]
  obtain ⟨S1, g1, g2, g3, g4⟩ := po_loop h K fu 0 (st_I (st_L S 1 0 (1 : Int64)) 0 1 (0 : Int32)) (by omega) (by rw [fu_v]; have := pk_K h; omega) (by simp [st_I, st_L]; exact h0) (by simp [st_I]; rfl) (fun i hi => by
    have : i = 0 := by omega
    subst this
    simp [st_I, st_L]; rfl)
  refine ⟨S1, g1, g2, fun q t hq => (g3 q t hq).trans ?_, fun q hq => (g4 q hq).trans ?_⟩
  · simp only [st_I, st_L]; rw [if_neg hq]
  · funext t; simp [st_I, st_L, hq]
theorem pz_c : ∀ (k n : Nat) (S : St), k < n → k ≤ 8 → (∀ i, i < 8 - k → S.1 5 i = 0) → ∃ S1, m_X3_prime_30 n S (ji ((8 : Int) - k)) = some (S1.1 1 2, S1) ∧ (∀ i, i < 8 → S1.1 5 i = 0) ∧ (∀ q, q ≠ 5 → S1.1 q = S.1 q) ∧ S1.2 = S.2 := by
  intro k
  induction k with
  | zero =>
    intro n S hn _ h1
    obtain ⟨n, rfl⟩ : ∃ t, n = t + 1 := ⟨n - 1, by omega⟩
    unfold m_X3_prime_30
    rw [if_pos (by decide)]
    exact ⟨S, rfl, h1, fun _ _ => rfl, rfl⟩
  | succ k ih =>
    intro n S hn hk h1
    obtain ⟨n, rfl⟩ : ∃ t, n = t + 1 := ⟨n - 1, by omega⟩
    have r8 : ri ((8 : Int) - (k + 1 : Nat)) := ⟨by omega, by omega⟩
    unfold m_X3_prime_30
    rw [if_neg (fun q => by have := (ji_ler (a := (8 : Int) - (k + 1 : Nat)) (c := 8) (b := 8) r8 rfl (by decide)).mp q; omega), if_neg (by rw [ji_oob r8]; omega), ji_nat r8, show ((8 : Int) - (k + 1 : Nat)).toNat = 7 - k by omega, show (1 : Int32) = ji 1 from rfl, ji_add, show (8 : Int) - (k + 1 : Nat) + 1 = 8 - k by omega]
    obtain ⟨S1, g1, g2, g3, g4⟩ := ih n (st_I S 5 (7 - k) (0 : Int32)) (by omega) (by omega) (fun i hi => by
      by_cases q : i = 7 - k
      · subst q; simp [st_I]
      · simp [st_I, q]; exact h1 i (by omega))
    exact ⟨S1, g1, g2, fun q hq => (g3 q hq).trans (by funext t; simp [st_I, hq]), g4⟩
theorem pz_m : ∀ (k n : Nat) (S : St), k < n → k ≤ 8 → (∀ i, i < 8 - k → S.1 10 i = 0) → ∃ S1, m_X4_prime_97 n S (ji ((8 : Int) - k)) = some (S1.1 0 1, S1) ∧ (∀ i, i < 8 → S1.1 10 i = 0) ∧ (∀ q, q ≠ 10 → S1.1 q = S.1 q) ∧ S1.2 = S.2 := by
  intro k
  induction k with
  | zero =>
    intro n S hn _ h1
    obtain ⟨n, rfl⟩ : ∃ t, n = t + 1 := ⟨n - 1, by omega⟩
    unfold m_X4_prime_97
    rw [if_pos (by decide)]
    exact ⟨S, rfl, h1, fun _ _ => rfl, rfl⟩
  | succ k ih =>
    intro n S hn hk h1
    obtain ⟨n, rfl⟩ : ∃ t, n = t + 1 := ⟨n - 1, by omega⟩
    have r8 : ri ((8 : Int) - (k + 1 : Nat)) := ⟨by omega, by omega⟩
    unfold m_X4_prime_97
    rw [if_neg (fun q => by have := (ji_ler (a := (8 : Int) - (k + 1 : Nat)) (c := 8) (b := 8) r8 rfl (by decide)).mp q; omega), if_neg (by rw [ji_oob r8]; omega), ji_nat r8, show ((8 : Int) - (k + 1 : Nat)).toNat = 7 - k by omega, show (1 : Int32) = ji 1 from rfl, ji_add, show (8 : Int) - (k + 1 : Nat) + 1 = 8 - k by omega]
    obtain ⟨S1, g1, g2, g3, g4⟩ := ih n (st_I S 10 (7 - k) (0 : Int32)) (by omega) (by omega) (fun i hi => by
      by_cases q : i = 7 - k
      · subst q; simp [st_I]
      · simp [st_I, q]; exact h1 i (by omega))
    exact ⟨S1, g1, g2, fun q hq => (g3 q hq).trans (by funext t; simp [st_I, hq]), g4⟩
theorem rel0 (h : pk p K) (hc : fc SC p K) (hm : fm SM p K) (h1 : SC.1 0 7 = 0) (h2 : SC.1 0 8 = 0) (h3 : ∀ i, i < 8 → SC.1 5 i = 0) (g1 : SM.1 0 3 = 0) (g2 : SM.1 0 4 = 0) (g3 : ∀ i, i < 8 → SM.1 10 i = 0) : Rel SC SM :=
  ⟨p, K, 0, 0, h, hc, hm, by omega, h1, g1, Or.inl rfl, h2, g2, (fun q => by omega), ⟨fun _ => 0, fun i hi => ⟨h3 i hi, by show (-1000000 : Int) ≤ 0; decide, by show (0 : Int) ≤ 1000000; decide⟩, fun i hi => ⟨g3 i hi, by show (-1000000 : Int) ≤ 0; decide, by show (0 : Int) ≤ 1000000; decide⟩⟩, fun i hi => by omega⟩
theorem isp_of {x : Int32} (h : x = 2 ∨ x = 3 ∨ x = 5 ∨ x = 7 ∨ x = 11 ∨ x = 13 ∨ x = 17 ∨ x = 19 ∨ x = 23 ∨ x = 29 ∨ x = 31) : ∃ (p : Int) (K : Nat), x = ji p ∧ pk p K := by
  rcases h with rfl | rfl | rfl | rfl | rfl | rfl | rfl | rfl | rfl | rfl | rfl
  · exact ⟨2, 59, rfl, by unfold pk; omega⟩
  · exact ⟨3, 37, rfl, by unfold pk; omega⟩
  · exact ⟨5, 25, rfl, by unfold pk; omega⟩
  · exact ⟨7, 21, rfl, by unfold pk; omega⟩
  · exact ⟨11, 17, rfl, by unfold pk; omega⟩
  · exact ⟨13, 16, rfl, by unfold pk; omega⟩
  · exact ⟨17, 14, rfl, by unfold pk; omega⟩
  · exact ⟨19, 14, rfl, by unfold pk; omega⟩
  · exact ⟨23, 13, rfl, by unfold pk; omega⟩
  · exact ⟨29, 12, rfl, by unfold pk; omega⟩
  · exact ⟨31, 12, rfl, by unfold pk; omega⟩
theorem m_prime_in {x : Int32} (h : x = 2 ∨ x = 3 ∨ x = 5 ∨ x = 7 ∨ x = 11 ∨ x = 13 ∨ x = 17 ∨ x = 19 ∨ x = 23 ∨ x = 29 ∨ x = 31) : m_X4_prime S x = m_X4_prime_63 S x := by
  unfold m_X4_prime
  by_cases c1 : x = 2
  · rw [if_pos c1]
  rw [if_neg c1]
  by_cases c2 : x = 3
  · rw [if_pos c2]
  rw [if_neg c2]
  by_cases c3 : x = 5
  · rw [if_pos c3]
  rw [if_neg c3]
  by_cases c4 : x = 7
  · rw [if_pos c4]
  rw [if_neg c4]
  by_cases c5 : x = 11
  · rw [if_pos c5]
  rw [if_neg c5]
  by_cases c6 : x = 13
  · rw [if_pos c6]
  rw [if_neg c6]
  by_cases c7 : x = 17
  · rw [if_pos c7]
  rw [if_neg c7]
  by_cases c8 : x = 19
  · rw [if_pos c8]
  rw [if_neg c8]
  by_cases c9 : x = 23
  · rw [if_pos c9]
  rw [if_neg c9]
  by_cases c10 : x = 29
  · rw [if_pos c10]
  rw [if_neg c10]
  by_cases c11 : x = 31
  · rw [if_pos c11]
  · exact absurd h (by simp only [c1, c2, c3, c4, c5, c6, c7, c8, c9, c10, c11, or_self, not_false_eq_true])
theorem m_prime_out {x : Int32} (h : ¬ (x = 2 ∨ x = 3 ∨ x = 5 ∨ x = 7 ∨ x = 11 ∨ x = 13 ∨ x = 17 ∨ x = 19 ∨ x = 23 ∨ x = 29 ∨ x = 31)) : m_X4_prime S x = m_X4_prime_68 S x 0 := by
  simp only [not_or] at h
  obtain ⟨c1, c2, c3, c4, c5, c6, c7, c8, c9, c10, c11⟩ := h
  unfold m_X4_prime
  rw [if_neg c1, if_neg c2, if_neg c3, if_neg c4, if_neg c5, if_neg c6, if_neg c7, if_neg c8, if_neg c9, if_neg c10, if_neg c11]
theorem R_prime (R : Rel SC SM) (x : Int32) : ∃ r SC1 SM1, m_X3_prime SC x = some (r, SC1) ∧ m_X4_prime SM x = some (r, SM1) ∧ Rel SC1 SM1 := by
  unfold m_X3_prime m_X1_isPrime
  rw [ho_s]
  by_cases q : x = 2 ∨ x = 3 ∨ x = 5 ∨ x = 7 ∨ x = 11 ∨ x = 13 ∨ x = 17 ∨ x = 19 ∨ x = 23 ∨ x = 29 ∨ x = 31
  · obtain ⟨p, K, rfl, h⟩ := isp_of q
    have hK := pk_K h
    rw [if_pos q, if_neg (show ¬ (1 : Int32) = 0 by decide), m_prime_in q]
    unfold m_X4_prime_63 m_X4_prime_68
    rw [if_neg (show ¬ (1 : Int32) = 0 by decide)]
    obtain ⟨S1, a1, a2, a3, a4⟩ := cf_choose (S := SC) h
    obtain ⟨T1, b1, b2, b3, b4⟩ := mf_powers (S := st_I SM 0 0 (ji p)) h (by simp [st_I])
    rw [a1, ho_s, b1, ho_s]
    obtain ⟨S2, c1, c2, c3, c4⟩ := pz_c 8 fu (st_I (st_I S1 0 7 (0 : Int32)) 0 8 (0 : Int32)) (by rw [fu_v]; omega) (by omega) (fun i hi => by omega)
    obtain ⟨T2, d1, d2, d3, d4⟩ := pz_m 8 fu (st_I (st_I T1 0 3 (0 : Int32)) 0 4 (0 : Int32)) (by rw [fu_v]; omega) (by omega) (fun i hi => by omega)
    rw [show (8 : Int) - ((8 : Nat) : Int) = 0 by omega, show ji 0 = 0 from rfl] at c1 d1
    have f1 : fc S2 p K := ⟨by rw [c3 1 (by omega)]; simp [st_I]; exact a2.1, by rw [c3 1 (by omega)]; simp [st_I]; exact a2.2.1, fun j hj => by rw [c4]; exact a2.2.2 j hj⟩
    have f2 : fm T2 p K := ⟨by rw [d3 0 (by omega)]; simp [st_I]; exact b2.1, by rw [d3 0 (by omega)]; simp [st_I]; exact b2.2.1, fun j hj => by rw [d4]; exact b2.2.2 j hj⟩
    rw [c1, d1, f1.2.1, f2.2.1]
    exact ⟨_, _, _, rfl, rfl, rel0 h f1 f2 (by rw [c3 0 (by omega)]; simp [st_I]) (by rw [c3 0 (by omega)]; simp [st_I]) c2 (by rw [d3 0 (by omega)]; simp [st_I]) (by rw [d3 0 (by omega)]; simp [st_I]) d2⟩
  · rw [if_neg q, if_pos rfl, m_prime_out q]
    unfold m_X4_prime_68
    rw [if_pos rfl]
    exact ⟨_, _, _, rfl, rfl, R⟩
end
