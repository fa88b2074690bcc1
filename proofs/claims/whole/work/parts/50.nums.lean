/-! whole numbers behind the ints and longs -/
def jl (z : Int) : Int64 := Int64.ofInt z
def ji (z : Int) : Int32 := Int32.ofInt z
/-- the range of a long, of an int -/
abbrev rl (z : Int) : Prop := -9223372036854775808 ≤ z ∧ z < 9223372036854775808
abbrev ri (z : Int) : Prop := -2147483648 ≤ z ∧ z < 2147483648
theorem jl_of (x : Int64) : x = jl x.toInt := (Int64.ofInt_toInt x).symm
theorem ji_of (x : Int32) : x = ji x.toInt := (Int32.ofInt_toInt x).symm
theorem rl_of (x : Int64) : rl x.toInt := ⟨Int64.le_toInt x, Int64.toInt_lt x⟩
theorem ri_of (x : Int32) : ri x.toInt := ⟨Int32.le_toInt x, Int32.toInt_lt x⟩
theorem jl_toInt {z : Int} (h : rl z) : (jl z).toInt = z := Int64.toInt_ofInt_of_le h.1 h.2
theorem ji_toInt {z : Int} (h : ri z) : (ji z).toInt = z := Int32.toInt_ofInt_of_le h.1 h.2
theorem jl_add (a b : Int) : jl a + jl b = jl (a + b) := (Int64.ofInt_add a b).symm
theorem jl_sub (a b : Int) : jl a - jl b = jl (a - b) := (Int64.ofInt_sub a b).symm
theorem jl_mul (a b : Int) : jl a * jl b = jl (a * b) := (Int64.ofInt_mul a b).symm
theorem jl_neg (a : Int) : -jl a = jl (-a) := (Int64.ofInt_neg a).symm
theorem ji_add (a b : Int) : ji a + ji b = ji (a + b) := (Int32.ofInt_add a b).symm
theorem ji_sub (a b : Int) : ji a - ji b = ji (a - b) := (Int32.ofInt_sub a b).symm
theorem ji_mul (a b : Int) : ji a * ji b = ji (a * b) := (Int32.ofInt_mul a b).symm
theorem ji_neg (a : Int) : -ji a = ji (-a) := (Int32.ofInt_neg a).symm
theorem jl_lt {a b : Int} (ha : rl a) (hb : rl b) : jl a < jl b ↔ a < b := by rw [Int64.lt_iff_toInt_lt, jl_toInt ha, jl_toInt hb]
theorem jl_le {a b : Int} (ha : rl a) (hb : rl b) : jl a ≤ jl b ↔ a ≤ b := by rw [Int64.le_iff_toInt_le, jl_toInt ha, jl_toInt hb]
theorem jl_eq {a b : Int} (ha : rl a) (hb : rl b) : jl a = jl b ↔ a = b := by rw [← Int64.toInt_inj, jl_toInt ha, jl_toInt hb]
theorem ji_lt {a b : Int} (ha : ri a) (hb : ri b) : ji a < ji b ↔ a < b := by rw [Int32.lt_iff_toInt_lt, ji_toInt ha, ji_toInt hb]
theorem ji_le {a b : Int} (ha : ri a) (hb : ri b) : ji a ≤ ji b ↔ a ≤ b := by rw [Int32.le_iff_toInt_le, ji_toInt ha, ji_toInt hb]
theorem ji_eq {a b : Int} (ha : ri a) (hb : ri b) : ji a = ji b ↔ a = b := by rw [← Int32.toInt_inj, ji_toInt ha, ji_toInt hb]
theorem ji_l {z : Int} (h : ri z) : (ji z).toInt64 = jl z := by
  apply Int64.toInt_inj.mp
  rw [Int32.toInt_toInt64, ji_toInt h, jl_toInt ⟨by omega, by omega⟩]
theorem jl_i (z : Int) : (jl z).toInt32 = ji z := Int64.toInt32_ofInt
theorem ji_nat {z : Int} (h : ri z) : (ji z).toNatClampNeg = z.toNat := by
  rw [Int32.toNatClampNeg, ji_toInt h]
theorem ji_oob {z : Int} (h : ri z) (n : Nat) : oob (ji z) n ↔ (z < 0 ∨ (n : Int) ≤ z) := by
  unfold oob
  rw [ji_nat h, show (0 : Int32) = ji 0 from rfl, ji_lt h (by decide)]
  omega
theorem jl_tdiv {a b : Int} (ha : rl a) (hb : rl b) (h : a ≠ -9223372036854775808) : jl a / jl b = jl (a.tdiv b) := by
  apply Int64.toInt_inj.mp
  rw [Int64.toInt_div_of_ne_left _ _ (fun q => h (by rw [← jl_toInt ha, q]; rfl)), jl_toInt ha, jl_toInt hb]
  rw [jl_toInt]
  have h1 : (a.tdiv b).natAbs ≤ a.natAbs := by
    rw [Int.natAbs_tdiv]; exact Nat.div_le_self _ _
  exact ⟨by omega, by omega⟩
theorem jl_div {a b : Int} (ha : rl a) (h0 : 0 ≤ a) (hb : rl b) : jl a / jl b = jl (a / b) := by
  rw [jl_tdiv ha hb (by omega), Int.tdiv_eq_ediv_of_nonneg h0]
theorem jl_tmod {a b : Int} (ha : rl a) (hb : rl b) (h : a ≠ -9223372036854775808) : rm64 (jl a) (jl b) = jl (a.tmod b) := by
  unfold rm64
  rw [jl_tdiv ha hb h, jl_mul, jl_sub]
  congr 1
  have := Int.mul_tdiv_add_tmod a b
  rw [Int.mul_comm] at this
  omega
theorem jl_mod {a b : Int} (ha : rl a) (h0 : 0 ≤ a) (hb : rl b) : rm64 (jl a) (jl b) = jl (a % b) := by
  rw [jl_tmod ha hb (by omega), Int.tmod_eq_emod_of_nonneg h0]
theorem ji_tdiv {a b : Int} (ha : ri a) (hb : ri b) (h : a ≠ -2147483648) : ji a / ji b = ji (a.tdiv b) := by
  apply Int32.toInt_inj.mp
  rw [Int32.toInt_div_of_ne_left _ _ (fun q => h (by rw [← ji_toInt ha, q]; rfl)), ji_toInt ha, ji_toInt hb]
  rw [ji_toInt]
  have h1 : (a.tdiv b).natAbs ≤ a.natAbs := by
    rw [Int.natAbs_tdiv]; exact Nat.div_le_self _ _
  exact ⟨by omega, by omega⟩
theorem ji_tmod {a b : Int} (ha : ri a) (hb : ri b) (h : a ≠ -2147483648) : rm32 (ji a) (ji b) = ji (a.tmod b) := by
  unfold rm32
  rw [ji_tdiv ha hb h, ji_mul, ji_sub]
  congr 1
  have := Int.mul_tdiv_add_tmod a b
  rw [Int.mul_comm] at this
  omega
theorem ji_div {a b : Int} (ha : ri a) (h0 : 0 ≤ a) (hb : ri b) : ji a / ji b = ji (a / b) := by
  rw [ji_tdiv ha hb (by omega), Int.tdiv_eq_ediv_of_nonneg h0]
theorem ji_mod {a b : Int} (ha : ri a) (h0 : 0 ≤ a) (hb : ri b) : rm32 (ji a) (ji b) = ji (a % b) := by
  rw [ji_tmod ha hb (by omega), Int.tmod_eq_emod_of_nonneg h0]
theorem jl_ne0 {b : Int} (hb : rl b) (h : b ≠ 0) : ¬ jl b = 0 := fun q => h ((jl_eq hb (by decide)).mp (q.trans (show (0 : Int64) = jl 0 from rfl)))
theorem ji_ne0 {b : Int} (hb : ri b) (h : b ≠ 0) : ¬ ji b = 0 := fun q => h ((ji_eq hb (by decide)).mp (q.trans (show (0 : Int32) = ji 0 from rfl)))
/-! the primes and their tables -/
def pk (p : Int) (K : Nat) : Prop := (p = 2 ∧ K = 59) ∨ (p = 3 ∧ K = 37) ∨ (p = 5 ∧ K = 25) ∨ (p = 7 ∧ K = 21) ∨ (p = 11 ∧ K = 17) ∨ (p = 13 ∧ K = 16) ∨ (p = 17 ∧ K = 14) ∨ (p = 19 ∧ K = 14) ∨ (p = 23 ∧ K = 13) ∨ (p = 29 ∧ K = 12) ∨ (p = 31 ∧ K = 12)
theorem pk_p {p : Int} {K : Nat} (h : pk p K) : 2 ≤ p ∧ p ≤ 31 := by unfold pk at h; omega
theorem pk_K {p : Int} {K : Nat} (h : pk p K) : 12 ≤ K ∧ K ≤ 59 := by unfold pk at h; omega
theorem pk_pow {p : Int} {K : Nat} (h : pk p K) : p ^ K ≤ 1000000000000000000 ∧ 1000000000000000000 < p ^ (K + 1) := by
  unfold pk at h
  rcases h with ⟨rfl, rfl⟩ | ⟨rfl, rfl⟩ | ⟨rfl, rfl⟩ | ⟨rfl, rfl⟩ | ⟨rfl, rfl⟩ | ⟨rfl, rfl⟩ | ⟨rfl, rfl⟩ | ⟨rfl, rfl⟩ | ⟨rfl, rfl⟩ | ⟨rfl, rfl⟩ | ⟨rfl, rfl⟩ <;> decide +kernel
theorem pw_pos {p : Int} (hp : 2 ≤ p) (n : Nat) : 0 < p ^ n := Int.pow_pos (by omega)
theorem pw_s (p : Int) (n : Nat) : p ^ (n + 1) = p ^ n * p := Int.pow_succ p n
theorem pw_le {p : Int} (hp : 2 ≤ p) {a b : Nat} (h : a ≤ b) : p ^ a ≤ p ^ b := by
  induction b with
  | zero => rw [show a = 0 by omega]; exact Int.le_refl _
  | succ b ih =>
    by_cases q : a = b + 1
    · rw [q]; exact Int.le_refl _
    · have h1 := ih (by omega)
      have h2 := pw_pos hp b
      rw [pw_s]
      have : p ^ b * 1 ≤ p ^ b * p := Int.mul_le_mul_of_nonneg_left (by omega) (by omega)
      omega
theorem pw_K {p : Int} {K n : Nat} (h : pk p K) (hn : n ≤ K) : 0 < p ^ n ∧ p ^ n ≤ 1000000000000000000 := by
  have h1 := pw_le (pk_p h).1 hn
  have h2 := (pk_pow h).1
  exact ⟨pw_pos (pk_p h).1 n, by omega⟩
theorem pw_add (p : Int) (a b : Nat) : p ^ (a + b) = p ^ a * p ^ b := Int.pow_add p a b
theorem pw_dvd (p : Int) {a b : Nat} (h : a ≤ b) : p ^ a ∣ p ^ b := ⟨p ^ (b - a), by rw [← pw_add]; congr 1; omega⟩
/-- a prime divides a product only through a factor -/
theorem pk_prime {p : Int} {K : Nat} (h : pk p K) {a b : Int} (hd : p ∣ a * b) : p ∣ a ∨ p ∣ b := by
  have key : ∀ q : Nat, q ∈ [2, 3, 5, 7, 11, 13, 17, 19, 23, 29, 31] → ∀ x, x < q → ∀ y, y < q → x * y % q = 0 → x = 0 ∨ y = 0 := by decide +kernel
  have h2 := pk_p h
  have e1 : (a * b) % p = 0 := Int.emod_eq_zero_of_dvd hd
  rw [Int.mul_emod] at e1
  have r1 := Int.emod_nonneg a (show p ≠ 0 by omega)
  have r2 := Int.emod_lt_of_pos a (show 0 < p by omega)
  have r3 := Int.emod_nonneg b (show p ≠ 0 by omega)
  have r4 := Int.emod_lt_of_pos b (show 0 < p by omega)
  obtain ⟨q, rfl⟩ : ∃ q : Nat, p = q := ⟨p.toNat, by omega⟩
  obtain ⟨x, hx⟩ : ∃ x : Nat, a % (q : Int) = x := ⟨(a % (q : Int)).toNat, by omega⟩
  obtain ⟨y, hy⟩ : ∃ y : Nat, b % (q : Int) = y := ⟨(b % (q : Int)).toNat, by omega⟩
  rw [hx, hy] at e1
  have hq : q ∈ [2, 3, 5, 7, 11, 13, 17, 19, 23, 29, 31] := by
    have : q = 2 ∨ q = 3 ∨ q = 5 ∨ q = 7 ∨ q = 11 ∨ q = 13 ∨ q = 17 ∨ q = 19 ∨ q = 23 ∨ q = 29 ∨ q = 31 := by unfold pk at h; omega
    simpa using this
  have e2 : x * y % q = 0 := by exact_mod_cast e1
  rcases key q hq x (by omega) y (by omega) e2 with k | k
  · exact Or.inl (Int.dvd_of_emod_eq_zero (by omega))
  · exact Or.inr (Int.dvd_of_emod_eq_zero (by omega))
theorem ji_ltl {a b : Int} {c : Int32} (ha : ri a) (hc : c = ji b) (hb : ri b) : ji a < c ↔ a < b := by rw [hc]; exact ji_lt ha hb
theorem ji_lel {a b : Int} {c : Int32} (ha : ri a) (hc : c = ji b) (hb : ri b) : ji a ≤ c ↔ a ≤ b := by rw [hc]; exact ji_le ha hb
theorem ji_eql {a b : Int} {c : Int32} (ha : ri a) (hc : c = ji b) (hb : ri b) : ji a = c ↔ a = b := by rw [hc]; exact ji_eq ha hb
theorem ji_ltr {a b : Int} {c : Int32} (ha : ri a) (hc : c = ji b) (hb : ri b) : c < ji a ↔ b < a := by rw [hc]; exact ji_lt hb ha
theorem ji_ler {a b : Int} {c : Int32} (ha : ri a) (hc : c = ji b) (hb : ri b) : c ≤ ji a ↔ b ≤ a := by rw [hc]; exact ji_le hb ha
theorem jl_ltl {a b : Int} {c : Int64} (ha : rl a) (hc : c = jl b) (hb : rl b) : jl a < c ↔ a < b := by rw [hc]; exact jl_lt ha hb
theorem jl_lel {a b : Int} {c : Int64} (ha : rl a) (hc : c = jl b) (hb : rl b) : jl a ≤ c ↔ a ≤ b := by rw [hc]; exact jl_le ha hb
theorem jl_eql {a b : Int} {c : Int64} (ha : rl a) (hc : c = jl b) (hb : rl b) : jl a = c ↔ a = b := by rw [hc]; exact jl_eq ha hb
theorem jl_ltr {a b : Int} {c : Int64} (ha : rl a) (hc : c = jl b) (hb : rl b) : c < jl a ↔ b < a := by rw [hc]; exact jl_lt hb ha
theorem jl_ler {a b : Int} {c : Int64} (ha : rl a) (hc : c = jl b) (hb : rl b) : c ≤ jl a ↔ b ≤ a := by rw [hc]; exact jl_le hb ha
