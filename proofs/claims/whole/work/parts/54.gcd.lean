/-! Euclid: the class's hundred steps are enough; fractions in least figures -/
def fbn : Nat → Nat
  | 0 => 0
  | 1 => 1
  | n + 2 => fbn n + fbn (n + 1)
theorem cd_loop : ∀ (k x y n : Nat) (i : Int), y < fbn (k + 1) → k < n → 0 ≤ i → i + k ≤ 99 → (x : Int) < 9223372036854775808 → (y : Int) < 9223372036854775808 → m_X0_commonDivisor_15 n (jl x) (jl y) (ji i) = some (jl (Nat.gcd x y)) := by
  intro k
  induction k using Nat.strongRecOn with
  | ind k ih =>
    intro x y n i hy hn h0 hi hx hy2
    obtain ⟨n, rfl⟩ : ∃ q, n = q + 1 := ⟨n - 1, by omega⟩
    unfold m_X0_commonDivisor_15
    rw [if_neg (fun q => by have := (ji_ler (a := i) (c := 100) (b := 100) ⟨by omega, by omega⟩ rfl (by decide)).mp q; omega)]
    by_cases c0 : y = 0
    · subst c0
      rw [if_pos (show jl ((0 : Nat) : Int) = 0 from rfl), Nat.gcd_zero_right]
    · rw [if_neg (jl_ne0 ⟨by omega, by omega⟩ (by omega)), if_neg (jl_ne0 ⟨by omega, by omega⟩ (by omega)), jl_mod ⟨by omega, by omega⟩ (by omega) ⟨by omega, by omega⟩, show (1 : Int32) = ji 1 from rfl, ji_add, show ((x : Int) % y) = ((x % y : Nat) : Int) by omega]
      have r1 : x % y < y := Nat.mod_lt _ (by omega)
      have eg : Nat.gcd y (x % y) = Nat.gcd x y := by rw [Nat.gcd_comm, ← Nat.gcd_rec, Nat.gcd_comm]
      match k, ih, hy, hn, hi with
      | 0, _, hy, _, _ => simp [fbn] at hy; omega
      | 1, _, hy, _, _ => simp [fbn] at hy; omega
      | k + 2, ih, hy, hn, hi =>
        have hf : fbn (k + 2 + 1) = fbn (k + 1) + fbn (k + 2) := rfl
        by_cases c1 : x % y < fbn (k + 2)
        · rw [ih (k + 1) (by omega) y (x % y) n (i + 1) c1 (by omega) (by omega) (by omega) (by omega) (by omega), eg]
        · -- two steps
          obtain ⟨n, rfl⟩ : ∃ q, n = q + 1 := ⟨n - 1, by omega⟩
          have hpos : 0 < fbn (k + 2) := by
            have : ∀ q, 0 < fbn (q + 1) := by
              intro q
              induction q using Nat.strongRecOn with
              | ind q ih2 =>
                match q, ih2 with
                | 0, _ => decide
                | 1, _ => decide
                | q + 2, ih2 =>
                  have := ih2 (q + 1) (by omega)
                  show 0 < fbn (q + 1) + fbn (q + 1 + 1)
                  omega
            exact this (k + 1)
          have r2 : y % (x % y) < x % y := Nat.mod_lt _ (by omega)
          have r3 : y % (x % y) ≤ y - x % y := by
            have h1 := Nat.div_add_mod y (x % y)
            have h2 : 1 ≤ y / (x % y) := Nat.div_pos (by omega) (by omega)
            have h3 : x % y * 1 ≤ x % y * (y / (x % y)) := Nat.mul_le_mul_left _ h2
            omega
          have eg2 : Nat.gcd (x % y) (y % (x % y)) = Nat.gcd y (x % y) := by rw [Nat.gcd_comm, ← Nat.gcd_rec, Nat.gcd_comm]
          unfold m_X0_commonDivisor_15
          rw [if_neg (fun q => by have := (ji_ler (a := i + 1) (c := 100) (b := 100) ⟨by omega, by omega⟩ rfl (by decide)).mp q; omega), if_neg (jl_ne0 ⟨by omega, by omega⟩ (by omega)), if_neg (jl_ne0 ⟨by omega, by omega⟩ (by omega)), jl_mod ⟨by omega, by omega⟩ (by omega) ⟨by omega, by omega⟩, show (1 : Int32) = ji 1 from rfl, ji_add, show ((y : Int) % (x % y : Nat)) = ((y % (x % y) : Nat) : Int) by exact_mod_cast rfl]
          rw [ih k (by omega) (x % y) (y % (x % y)) n (i + 1 + 1) (by omega) (by omega) (by omega) (by omega) (by omega) (by omega), eg2, eg]
theorem dv_loop : ∀ (k x y n : Nat), y < fbn (k + 1) → k < n → (x : Int) < 9223372036854775808 → (y : Int) < 9223372036854775808 → m_X4_divisor_17 n (jl x) (jl y) = some (jl (Nat.gcd x y)) := by
  intro k
  induction k using Nat.strongRecOn with
  | ind k ih =>
    intro x y n hy hn hx hy2
    obtain ⟨n, rfl⟩ : ∃ q, n = q + 1 := ⟨n - 1, by omega⟩
    unfold m_X4_divisor_17
    by_cases c0 : y = 0
    · subst c0
      rw [if_pos (by decide), Nat.gcd_zero_right]
    · rw [if_neg (fun q => by have := (jl_lel (a := y) (c := 0) (b := 0) ⟨by omega, by omega⟩ rfl (by decide)).mp q; omega), if_neg (jl_ne0 ⟨by omega, by omega⟩ (by omega)), jl_mod ⟨by omega, by omega⟩ (by omega) ⟨by omega, by omega⟩, show ((x : Int) % y) = ((x % y : Nat) : Int) by omega]
      have r1 : x % y < y := Nat.mod_lt _ (by omega)
      have eg : Nat.gcd y (x % y) = Nat.gcd x y := by rw [Nat.gcd_comm, ← Nat.gcd_rec, Nat.gcd_comm]
      match k, ih, hy, hn with
      | 0, _, hy, _ => simp [fbn] at hy; omega
      | 1, _, hy, _ => simp [fbn] at hy; omega
      | k + 2, ih, hy, hn =>
        have hf : fbn (k + 2 + 1) = fbn (k + 1) + fbn (k + 2) := rfl
        by_cases c1 : x % y < fbn (k + 2)
        · rw [ih (k + 1) (by omega) y (x % y) n c1 (by omega) (by omega) (by omega), eg]
        · obtain ⟨n, rfl⟩ : ∃ q, n = q + 1 := ⟨n - 1, by omega⟩
          by_cases c2 : x % y = 0
          · unfold m_X4_divisor_17
            rw [c2, if_pos (by decide), ← eg, c2, Nat.gcd_zero_right]
          have r2 : y % (x % y) < x % y := Nat.mod_lt _ (by omega)
          have r3 : y % (x % y) ≤ y - x % y := by
            have h1 := Nat.div_add_mod y (x % y)
            have h2 : 1 ≤ y / (x % y) := Nat.div_pos (by omega) (by omega)
            have h3 : x % y * 1 ≤ x % y * (y / (x % y)) := Nat.mul_le_mul_left _ h2
            omega
          have eg2 : Nat.gcd (x % y) (y % (x % y)) = Nat.gcd y (x % y) := by rw [Nat.gcd_comm, ← Nat.gcd_rec, Nat.gcd_comm]
          unfold m_X4_divisor_17
          rw [if_neg (fun q => by have := (jl_lel (a := (x % y : Nat)) (c := 0) (b := 0) ⟨by omega, by omega⟩ rfl (by decide)).mp q; omega), if_neg (jl_ne0 ⟨by omega, by omega⟩ (by omega)), jl_mod ⟨by omega, by omega⟩ (by omega) ⟨by omega, by omega⟩, show ((y : Int) % (x % y : Nat)) = ((y % (x % y) : Nat) : Int) by exact_mod_cast rfl]
          rw [ih k (by omega) (x % y) (y % (x % y)) n (by omega) (by omega) (by omega) (by omega), eg2, eg]
theorem fb90 : 2000000000000000000 < fbn (90 + 1) := by decide +kernel
theorem jl_abs {a : Int} (ha : rl a) : (if 0 < jl a then jl a else -jl a) = jl (a.natAbs) := by
  by_cases c : 0 < a
  · rw [if_pos ((jl_ltr (c := 0) (b := 0) ha rfl (by decide)).mpr c)]; congr 1; omega
  · rw [if_neg (fun q => c ((jl_ltr (c := 0) (b := 0) ha rfl (by decide)).mp q)), jl_neg]; congr 1; omega
theorem cf_gcd {a b : Int} (ha : a.natAbs ≤ 2000000000000000000) (hb : b.natAbs ≤ 2000000000000000000) : m_X0_commonDivisor (jl a) (jl b) = some (jl (Int.gcd a b)) := by
  unfold m_X0_commonDivisor
  have := fb90
  rw [jl_abs ⟨by omega, by omega⟩, jl_abs ⟨by omega, by omega⟩]
  exact cd_loop 90 a.natAbs b.natAbs fu 0 (by omega) (by rw [fu_v]; omega) (by omega) (by omega) (by omega) (by omega)
theorem mf_gcd {a b : Int} (ha : a.natAbs ≤ 2000000000000000000) (hb : b.natAbs ≤ 2000000000000000000) (h0 : 0 ≤ b) : m_X4_divisor (jl a) (jl b) = some (jl (Int.gcd a b)) := by
  unfold m_X4_divisor m_X4_divisor_12
  have := fb90
  have e := dv_loop 90 a.natAbs b.natAbs fu (by omega) (by rw [fu_v]; omega) (by omega) (by omega)
  rw [show ((b.natAbs : Nat) : Int) = b by omega] at e
  by_cases c : 0 ≤ a
  · rw [if_pos ((jl_ler (c := 0) (b := 0) ⟨by omega, by omega⟩ rfl (by decide)).mpr c)]
    rw [show ((a.natAbs : Nat) : Int) = a by omega] at e
    exact e
  · rw [if_neg (fun q => c ((jl_ler (c := 0) (b := 0) ⟨by omega, by omega⟩ rfl (by decide)).mp q)), jl_neg]
    rw [show ((a.natAbs : Nat) : Int) = -a by omega] at e
    exact e
/-! least figures -/
def red (up low x y : Int) : Prop := 1 ≤ y ∧ Int.gcd x y = 1 ∧ up * y = x * low
theorem gcd_dv {n m k : Int} (h : Int.gcd n m = 1) (hd : n ∣ m * k) : n ∣ k := by
  have h1 := Int.gcd_mul_right_right_of_gcd_eq_one (k := k) h
  have h2 : Int.gcd n (m * k) = n.natAbs := Int.gcd_eq_natAbs_left hd
  rw [h2] at h1
  have h3 := Int.gcd_dvd_right n k
  rw [← h1] at h3
  exact Int.natAbs_dvd.mp h3
theorem red_uniq {up low x y x2 y2 : Int} (h0 : low ≠ 0) (h : red up low x y) (h2 : red up low x2 y2) : x = x2 ∧ y = y2 := by
  obtain ⟨a1, a2, a3⟩ := h
  obtain ⟨b1, b2, b3⟩ := h2
  have e : x * y2 = x2 * y := by
    apply Int.eq_of_mul_eq_mul_right h0
    have h1 : x * y2 * low = (x * low) * y2 := by grind
    have h2 : x2 * y * low = (x2 * low) * y := by grind
    rw [h1, h2, ← a3, ← b3]; grind
  have d1 : y ∣ y2 := gcd_dv (m := x) (by rw [Int.gcd_comm]; exact a2) ⟨x2, by rw [e]; grind⟩
  have d2 : y2 ∣ y := gcd_dv (m := x2) (by rw [Int.gcd_comm]; exact b2) ⟨x, by rw [← e]; grind⟩
  have e2 : y = y2 := Int.dvd_antisymm (by omega) (by omega) d1 d2
  subst e2
  exact ⟨Int.eq_of_mul_eq_mul_right (by omega) e, rfl⟩
/-- the parts, by the divisor with the sign of low -/
theorem red_ex {up low : Int} (h0 : low ≠ 0) : ∃ d x y : Int, d.natAbs = Int.gcd up low ∧ (0 < d ↔ 0 < low) ∧ d ≠ 0 ∧ up = d * x ∧ low = d * y ∧ red up low x y := by
  have hg : 0 < Int.gcd up low := Int.gcd_pos_of_ne_zero_right up h0
  obtain ⟨x, hx⟩ := Int.gcd_dvd_left up low
  obtain ⟨y, hy⟩ := Int.gcd_dvd_right up low
  have hc : Int.gcd x y = 1 := by
    have h1 : Int.gcd (((Int.gcd up low : Nat) : Int) * x) (((Int.gcd up low : Nat) : Int) * y) = Int.gcd up low * Int.gcd x y := by
      rw [Int.gcd_mul_left]; rfl
    rw [← hx, ← hy] at h1
    have h2 : Int.gcd up low * 1 = Int.gcd up low * Int.gcd x y := by omega
    exact (Nat.eq_of_mul_eq_mul_left hg h2).symm
  generalize Int.gcd up low = g at *
  by_cases c : 0 < low
  · refine ⟨g, x, y, by omega, by omega, by omega, hx, hy, ?_, hc, by rw [hx, hy]; grind⟩
    by_cases q : 1 ≤ y
    · exact q
    · have : (g : Int) * y ≤ g * 0 := Int.mul_le_mul_of_nonneg_left (by omega) (by omega)
      omega
  · refine ⟨-g, -x, -y, by omega, by omega, by omega, by grind, by grind, ?_, by simpa using hc, by rw [hx, hy]; grind⟩
    by_cases q : 1 ≤ -y
    · exact q
    · have : (g : Int) * 0 ≤ g * y := Int.mul_le_mul_of_nonneg_left (by omega) (by omega)
      omega
/-- what a fraction in least figures tells -/
def frv (p : Int) (K : Nat) (x y v u : Int) : Prop := (x = 0 ∧ v = 60 ∧ u = 0) ∨ (x ≠ 0 ∧ ∃ (s t : Nat) (x1 y1 : Int), x = p ^ s * x1 ∧ y = p ^ t * y1 ∧ ¬ p ∣ x1 ∧ ¬ p ∣ y1 ∧ v = (s : Int) - t ∧ 0 ≤ u ∧ u < p ^ K ∧ p ^ K ∣ u * y1 - x1)
theorem alg7 {u u2 y x m w k1 k2 k3 : Int} (e1 : u * y - x = m * k1) (e2 : u2 * y - x = m * k2) (e3 : y * w - 1 = m * k3) : u - u2 = m * (w * (k1 - k2) - (u - u2) * k3) := by grind
theorem unit_inv {p : Int} {K : Nat} (h : pk p K) {y : Int} (hy : ¬ p ∣ y) : ∀ N : Nat, ∃ w, p ^ N ∣ y * w - 1 := by
  have hp := pk_p h
  have r1 := em_lt (a := y) (show 0 < p by omega)
  have r2 : y % p ≠ 0 := fun q => hy (Int.dvd_of_emod_eq_zero q)
  obtain ⟨j, a1, a2, a3⟩ := pk_inv h (show 0 < y % p by omega) r1.2
  have h1 : p ∣ y * j - 1 := by
    obtain ⟨k1, e1⟩ := dv_mod (a := y) (m := p)
    obtain ⟨k2, e2⟩ := dv_mod (a := y % p * j) (m := p)
    rw [a3] at e2
    exact ⟨-k2 - k1 * j, by grind⟩
  intro N
  induction N with
  | zero => exact ⟨0, by rw [Int.pow_zero]; exact Int.one_dvd _⟩
  | succ N ih =>
    obtain ⟨w, hw⟩ := ih
    obtain ⟨k, hk⟩ := hw
    obtain ⟨k1, hk1⟩ := h1
    -- w - (y w - 1) j
    refine ⟨w - (y * w - 1) * j, -(k * k1), ?_⟩
    rw [pw_s]
    have : y * (w - (y * w - 1) * j) - 1 = -((y * w - 1) * (y * j - 1)) := by grind
    rw [this, hk, hk1]; grind
theorem frv_uniq {p : Int} {K : Nat} (h : pk p K) {x y v u v2 u2 : Int} (h1 : frv p K x y v u) (h2 : frv p K x y v2 u2) : v = v2 ∧ u = u2 := by
  have hp := pk_p h
  rcases h1 with ⟨a1, a2, a3⟩ | ⟨a1, s, t, x1, y1, b1, b2, b3, b4, b5, b6, b7, b8⟩
  · rcases h2 with ⟨c1, c2, c3⟩ | ⟨c1, -⟩
    · exact ⟨by omega, by omega⟩
    · exact absurd a1 c1
  · rcases h2 with ⟨c1, -⟩ | ⟨-, s2, t2, x2, y2, d1, d2, d3, d4, d5, d6, d7, d8⟩
    · exact absurd c1 a1
    · obtain ⟨e1, e2⟩ := pv_uniq hp.1 s s2 x1 x2 (b1.symm.trans d1) b3 d3
      obtain ⟨e3, e4⟩ := pv_uniq hp.1 t t2 y1 y2 (b2.symm.trans d2) b4 d4
      subst e1 e2 e3 e4
      refine ⟨by omega, eq_of_dv b6 b7 d6 d7 ?_⟩
      obtain ⟨w, k3, hw⟩ := unit_inv h b4 K
      obtain ⟨k1, f1⟩ := b8
      obtain ⟨k2, f2⟩ := d8
      exact ⟨_, alg7 f1 f2 hw⟩
/-- a unit: the prime isn't in u -/
theorem frv_unit {p : Int} {K : Nat} (h : pk p K) {x y v u : Int} (h1 : frv p K x y v u) (hx : x ≠ 0) : ¬ p ∣ u := by
  have hp := pk_p h
  have hK := pk_K h
  rcases h1 with ⟨a1, -⟩ | ⟨-, s, t, x1, y1, b1, b2, b3, b4, b5, b6, b7, b8⟩
  · exact absurd a1 hx
  · intro hd
    obtain ⟨k, hk⟩ := hd
    obtain ⟨q, hq⟩ := Int.dvd_trans (dv_p hp.1 (show 1 ≤ K by omega)) b8
    exact b3 ⟨k * y1 - q, by grind⟩
