/-! inverses, powers, values of polynomials: the class's -/
theorem fu_v : fu = 4000 := rfl
section
variable {S : St} {p : Int} {K : Nat}
theorem pk_inv (h : pk p K) {f : Int} (h0 : 0 < f) (h1 : f < p) : ∃ j : Int, 1 ≤ j ∧ j < p ∧ f * j % p = 1 := by
  have key : ∀ q : Nat, q ∈ [2, 3, 5, 7, 11, 13, 17, 19, 23, 29, 31] → ∀ x, x < q → 0 < x → ∃ y, y < q ∧ 0 < y ∧ x * y % q = 1 := by decide +kernel
  have h2 := pk_p h
  obtain ⟨q, rfl⟩ : ∃ q : Nat, p = q := ⟨p.toNat, by omega⟩
  obtain ⟨x, rfl⟩ : ∃ x : Nat, f = x := ⟨f.toNat, by omega⟩
  have hq : q ∈ [2, 3, 5, 7, 11, 13, 17, 19, 23, 29, 31] := by
    have : q = 2 ∨ q = 3 ∨ q = 5 ∨ q = 7 ∨ q = 11 ∨ q = 13 ∨ q = 17 ∨ q = 19 ∨ q = 23 ∨ q = 29 ∨ q = 31 := by unfold pk at h; omega
    simpa using this
  obtain ⟨y, a, b, c⟩ := key q hq x (by omega) (by omega)
  exact ⟨y, by omega, by omega, by exact_mod_cast c⟩
theorem sq_bd {a b : Int} (ha : 0 ≤ a) (ha2 : a < 32) (hb : 0 ≤ b) (hb2 : b < 32) : 0 ≤ a * b ∧ a * b < 1024 := mul_lt2 ha ha2 hb hb2
theorem cf_fi_loop (h : pk p K) (hS : fc S p K) {f : Int} (hf : 0 ≤ f) (hf2 : f < p) : ∀ (n : Nat) (i : Int), 1 ≤ i → i ≤ p → p - i < n → (∃ r, m_X1_firstInverse_9 S n (ji f) (ji i) = some (ji r) ∧ 1 ≤ r ∧ r < p ∧ f * r % p = 1) ∨ (m_X1_firstInverse_9 S n (ji f) (ji i) = some (ji 0) ∧ ∀ j, i ≤ j → j < p → f * j % p ≠ 1) := by
  have hp := pk_p h
  intro n
  induction n with
  | zero => intro i h1 h2 h3; omega
  | succ n ih =>
    intro i h1 h2 h3
    unfold m_X1_firstInverse_9
    rw [hS.1]
    by_cases c1 : p ≤ i
    · rw [if_pos ((ji_le ⟨by omega, by omega⟩ ⟨by omega, by omega⟩).mpr c1)]
      exact Or.inr ⟨rfl, fun j a b => by omega⟩
    · have m1 := sq_bd hf (show f < 32 by omega) (show 0 ≤ i by omega) (show i < 32 by omega)
      have m2 := em_lt (a := f * i) (show 0 < p by omega)
      rw [if_neg (fun q => c1 ((ji_le ⟨by omega, by omega⟩ ⟨by omega, by omega⟩).mp q)), if_neg (ji_ne0 ⟨by omega, by omega⟩ (by omega)), ji_mul, ji_mod ⟨by omega, by omega⟩ m1.1 ⟨by omega, by omega⟩, show (1 : Int32) = ji 1 from rfl]
      by_cases c2 : f * i % p = 1
      · rw [if_pos (by rw [c2])]
        exact Or.inl ⟨i, rfl, h1, by omega, c2⟩
      · rw [if_neg (fun q => c2 ((ji_eq ⟨by omega, by omega⟩ (by decide)).mp q)), ji_add]
        rcases ih (i + 1) (by omega) (by omega) (by omega) with q | ⟨q1, q2⟩
        · exact Or.inl q
        · refine Or.inr ⟨q1, fun j a b => ?_⟩
          by_cases e : j = i
          · rw [e]; exact c2
          · exact q2 j (by omega) b
theorem cf_firstInverse (h : pk p K) (hS : fc S p K) {a : Int} (ha : rl a) (hn : a ≠ -9223372036854775808) (hd : ¬ p ∣ a) : ∃ r, m_X1_firstInverse S (jl a) = some (ji r) ∧ 1 ≤ r ∧ r < p ∧ (a * r) % p = 1 := by
  have hp := pk_p h
  have r1 := em_lt (a := a) (show 0 < p by omega)
  have r2 : a % p ≠ 0 := fun q => hd (Int.dvd_of_emod_eq_zero q)
  unfold m_X1_firstInverse
  rw [cf_lowest h hS ha hn, ho_s]
  rcases cf_fi_loop h hS r1.1 r1.2 fu 1 (by omega) (by omega) (by rw [fu_v]; omega) with ⟨r, q1, q2, q3, q4⟩ | ⟨-, q⟩
  · refine ⟨r, q1, q2, q3, ?_⟩
    rw [Int.mul_emod, Int.emod_emod_of_dvd _ (Int.dvd_refl p), ← Int.mul_emod] at q4
    exact q4
  · obtain ⟨j, a1, a2, a3⟩ := pk_inv h (show 0 < a % p by omega) r1.2
    exact absurd a3 (q j a1 a2)
theorem cf_firstInverse0 (h : pk p K) (hS : fc S p K) : m_X1_firstInverse S (jl 0) = some (ji 0) := by
  have hp := pk_p h
  unfold m_X1_firstInverse
  rw [cf_lowest h hS (by decide) (by decide), ho_s, Int.zero_emod]
  rcases cf_fi_loop h hS (f := 0) (by omega) (by omega) fu 1 (by omega) (by omega) (by rw [fu_v]; omega) with ⟨r, q1, q2, q3, q4⟩ | ⟨q, -⟩
  · rw [Int.zero_mul, Int.zero_emod] at q4; omega
  · exact q
theorem dv_mod {a m : Int} : m ∣ a % m - a := ⟨-(a / m), by have := Int.mul_ediv_add_emod a m; grind⟩
theorem eq_of_dv {a b m : Int} (ha : 0 ≤ a) (ha2 : a < m) (hb : 0 ≤ b) (hb2 : b < m) (h : m ∣ a - b) : a = b := by
  have := (Int.emod_eq_emod_iff_emod_sub_eq_zero (m := a) (n := m) (k := b)).mpr (Int.emod_eq_zero_of_dvd h)
  rwa [Int.emod_eq_of_lt ha ha2, Int.emod_eq_of_lt hb hb2] at this
theorem inv_uniq {a x y m : Int} (hx : 0 ≤ x) (hx2 : x < m) (hy : 0 ≤ y) (hy2 : y < m) (h1 : m ∣ a * x - 1) (h2 : m ∣ a * y - 1) : x = y := by
  refine eq_of_dv hx hx2 hy hy2 ?_
  obtain ⟨c, hc⟩ := h1
  obtain ⟨d, hd⟩ := h2
  exact ⟨y * c - x * d, by grind⟩
/-- one step of Newton's for the inverse -/
theorem inv_step {a x y m d e : Int} (h1 : d ∣ a * x - 1) (he : e ∣ d * d) (hem : e ∣ m) (hy : m ∣ y - x * (2 - a * x)) : e ∣ a * y - 1 := by
  obtain ⟨c1, h1⟩ := h1
  obtain ⟨c2, he⟩ := he
  obtain ⟨c3, hem⟩ := hem
  obtain ⟨c4, hy⟩ := hy
  refine ⟨a * c3 * c4 - c1 * c1 * c2, ?_⟩
  have e1 : a * y - 1 = a * (m * c4) - (a * x - 1) * (a * x - 1) := by
    rw [← hy]; grind
  rw [e1, h1, hem]
  grind
theorem alg1 {y z t x a m k1 k2 k3 : Int} (e1 : y - x * z = m * k1) (e2 : z - (2 - t) = m * k2) (e3 : t - a * x = m * k3) : y - x * (2 - a * x) = m * (k1 + x * k2 - x * k3) := by grind
theorem alg2 {y t v x m k1 k2 c : Int} (e1 : y - t * x = m * k1) (e2 : t - v = m * k2) : y + c - (v * x + c) = m * (k1 + k2 * x) := by grind
theorem pw_min (p : Int) {s N : Nat} : p ^ (min (s * 2) N) ∣ p ^ (min s N) * p ^ (min s N) := by
  rw [← pw_add]
  exact pw_dvd p (by omega)
theorem cf_inv_loop (h : pk p K) (hS : fc S p K) {a : Int} {N : Nat} (hN : N ≤ K) (ha : 0 ≤ a) (ha2 : a < p ^ N) : ∀ (n s : Nat) (x : Int), 1 ≤ s → s ≤ 128 → (N : Int) - s < n → 0 < n → 0 ≤ x → x < p ^ N → p ^ (min s N) ∣ a * x - 1 → ∃ y, m_X1_inverse_11 S n (jl a) (ji N) (jl x) (ji s) = some (jl y) ∧ 0 ≤ y ∧ y < p ^ N ∧ p ^ N ∣ a * y - 1 := by
  have hp := pk_p h
  have hK := pk_K h
  have q5 := pw_K h hN
  intro n
  induction n with
  | zero => intro s x _ _ _ hn; omega
  | succ n ih =>
    intro s x hs hs2 hn _ hx hx2 hd
    unfold m_X1_inverse_11
    by_cases c1 : N ≤ s
    · rw [if_pos ((ji_le ⟨by omega, by omega⟩ ⟨by omega, by omega⟩).mpr (by omega))]
      unfold m_X1_inverse_56
      rw [cf_reduce h hS ⟨by omega, by omega⟩ (by omega) hN, Int.emod_eq_of_lt hx hx2]
      refine ⟨x, rfl, hx, hx2, ?_⟩
      rwa [show min s N = N by omega] at hd
    · rw [if_neg (fun q => c1 (by have := (ji_le (a := N) (b := s) ⟨by omega, by omega⟩ ⟨by omega, by omega⟩).mp q; omega)), cf_product h hS hN ha ha2 hx hx2, ho_s]
      have r1 := em_lt (a := a * x) q5.1
      rw [show (2 : Int64) = jl 2 from rfl, jl_sub, cf_reduce h hS ⟨by omega, by omega⟩ (by omega) hN, ho_s]
      have r2 := em_lt (a := 2 - a * x % p ^ N) q5.1
      rw [cf_product h hS hN hx hx2 r2.1 r2.2, ho_s, show (2 : Int32) = ji 2 from rfl, ji_mul, show ((s : Int) * 2) = ((s * 2 : Nat) : Int) by omega]
      have r3 := em_lt (a := x * ((2 - a * x % p ^ N) % p ^ N)) q5.1
      refine ih (s * 2) _ (by omega) (by omega) (by omega) (by omega) r3.1 r3.2 ?_
      refine inv_step (m := p ^ N) hd (pw_min p) (pw_dvd p (by omega)) ?_
      obtain ⟨k1, e1⟩ := dv_mod (a := x * ((2 - a * x % p ^ N) % p ^ N)) (m := p ^ N)
      obtain ⟨k2, e2⟩ := dv_mod (a := 2 - a * x % p ^ N) (m := p ^ N)
      obtain ⟨k3, e3⟩ := dv_mod (a := a * x) (m := p ^ N)
      exact ⟨_, alg1 e1 e2 e3⟩
theorem dv_p (hp : 2 ≤ p) {n : Nat} (hn : 1 ≤ n) : p ∣ p ^ n := by
  have := pw_dvd p hn
  rwa [show p ^ 1 = p by rw [show (1 : Nat) = 0 + 1 from rfl, pw_s, Int.pow_zero, Int.one_mul]] at this
theorem pw1 (p : Int) : p ^ 1 = p := by rw [show (1 : Nat) = 0 + 1 from rfl, pw_s, Int.pow_zero, Int.one_mul]
theorem cf_inverse (h : pk p K) (hS : fc S p K) {a : Int} {N : Nat} (hN : N ≤ K) (hN1 : 1 ≤ N) (ha : 0 ≤ a) (ha2 : a < p ^ N) (hd : ¬ p ∣ a) : ∃ y, m_X1_inverse S (jl a) (ji N) = some (jl y) ∧ 0 ≤ y ∧ y < p ^ N ∧ p ^ N ∣ a * y - 1 := by
  have hp := pk_p h
  have hK := pk_K h
  have q5 := pw_K h hN
  obtain ⟨r, e1, h1, h2, h3⟩ := cf_firstInverse h hS (a := a) ⟨by omega, by omega⟩ (by omega) hd
  unfold m_X1_inverse
  rw [e1, ho_s, ji_l ⟨by omega, by omega⟩]
  have hle := pw_le hp.1 hN1
  rw [pw1] at hle
  refine cf_inv_loop h hS hN ha ha2 fu 1 r (by omega) (by omega) (by rw [fu_v]; omega) (by rw [fu_v]; omega) (by omega) (by omega) ?_
  rw [show min 1 N = 1 by omega, pw1]
  exact Int.dvd_of_emod_eq_zero (by rw [Int.sub_emod, h3, Int.emod_eq_of_lt (by omega) (show (1 : Int) < p by omega)]; rfl)
theorem cf_inverse0 (h : pk p K) (hS : fc S p K) : m_X1_inverse S (jl 0) (ji 0) = some (jl 0) := by
  unfold m_X1_inverse
  rw [cf_firstInverse0 h hS, ho_s, fu_v]
  unfold m_X1_inverse_11
  rw [if_pos (by decide)]
  unfold m_X1_inverse_56
  have := cf_reduce h hS (a := 0) (by decide) (by decide) (Nat.zero_le K)
  rw [Int.zero_emod] at this
  rw [show (ji 0).toInt64 = jl 0 from rfl, show (ji 0) = ji (0 : Nat) from rfl, this]
  rfl
/-! the prime's power -/
theorem cf_pp_loop (h : pk p K) (hS : fc S p K) {a : Int} {N : Nat} (hN : N ≤ K) (ha : 0 ≤ a) (ha2 : a < p ^ N) : ∀ (k n : Nat) (x : Int), k < n → (k : Int) ≤ p - 1 → 0 ≤ x → x < p ^ N → m_X1_toThePrime_6 S n (jl a) (ji N) (jl x) (ji (p - k)) = some (jl (x * a ^ k % p ^ N)) := by
  have hp := pk_p h
  have q5 := pw_K h hN
  intro k
  induction k with
  | zero =>
    intro n x hk hk2 hx hx2
    obtain ⟨n, rfl⟩ : ∃ k, n = k + 1 := ⟨n - 1, by omega⟩
    unfold m_X1_toThePrime_6
    rw [hS.1, if_pos ((ji_le ⟨by omega, by omega⟩ ⟨by omega, by omega⟩).mpr (by omega)), Int.pow_zero, Int.mul_one, Int.emod_eq_of_lt hx hx2]
  | succ k ih =>
    intro n x hk hk2 hx hx2
    obtain ⟨n, rfl⟩ : ∃ k, n = k + 1 := ⟨n - 1, by omega⟩
    unfold m_X1_toThePrime_6
    rw [hS.1, if_neg (fun q => by have := (ji_le (a := p) (b := p - (k + 1 : Nat)) ⟨by omega, by omega⟩ ⟨by omega, by omega⟩).mp q; omega), cf_product h hS hN hx hx2 ha ha2, ho_s, show (1 : Int32) = ji 1 from rfl, ji_add, show p - (k + 1 : Nat) + 1 = p - k by omega]
    have r1 := em_lt (a := x * a) q5.1
    rw [ih n (x * a % p ^ N) (by omega) (by omega) r1.1 r1.2]
    congr 2
    rw [Int.mul_emod, Int.emod_emod_of_dvd _ (Int.dvd_refl _), ← Int.mul_emod, Int.pow_succ, Int.mul_assoc, Int.mul_comm a]
theorem cf_toThePrime (h : pk p K) (hS : fc S p K) {a : Int} {N : Nat} (hN : N ≤ K) (ha : 0 ≤ a) (ha2 : a < p ^ N) : m_X1_toThePrime S (jl a) (ji N) = some (jl (a ^ p.toNat % p ^ N)) := by
  have hp := pk_p h
  unfold m_X1_toThePrime
  have := cf_pp_loop h hS hN ha ha2 (p.toNat - 1) fu a (by rw [fu_v]; omega) (by omega) ha ha2
  rw [show p - ((p.toNat - 1 : Nat) : Int) = 1 by omega] at this
  rw [show (1 : Int32) = ji 1 from rfl, this]
  congr 2
  rw [show p.toNat = (p.toNat - 1) + 1 by omega, Int.pow_succ, Nat.add_sub_cancel, Int.mul_comm]
end
/-! polynomials -/
/-- from a value on down by k coefficients -/
def hz (c : Nat → Int) (x : Int) : Nat → Int → Int
  | 0, v => v
  | k + 1, v => hz c x k (v * x + c k)
theorem hz_mod {c : Nat → Int} {x m : Int} : ∀ (k : Nat) (v w : Int), m ∣ v - w → m ∣ hz c x k v - hz c x k w := by
  intro k
  induction k with
  | zero => intro v w h; exact h
  | succ k ih =>
    intro v w h
    refine ih _ _ ?_
    obtain ⟨t, ht⟩ := h
    exact ⟨t * x, by grind⟩
theorem emod_of_dv {a b m : Int} (h : m ∣ a - b) : a % m = b % m := (Int.emod_eq_emod_iff_emod_sub_eq_zero).mpr (Int.emod_eq_zero_of_dvd h)
/-- the coefficients that a row of eight ints holds -/
def cf8 (f : Nat → Int32) (c : Nat → Int) : Prop := ∀ k, k < 8 → f k = ji (c k) ∧ -1000000 ≤ c k ∧ c k ≤ 1000000
abbrev sl (c : Nat → Int) : Nat → Int := fun k => (k + 1 : Nat) * c (k + 1)
section
variable {S : St} {p : Int} {K : Nat}
theorem cf_va_loop (h : pk p K) (hS : fc S p K) {r : Nat} {c : Nat → Int} (hc : cf8 (S.1 r) c) {x : Int} {N : Nat} (hN : N ≤ K) (hx : 0 ≤ x) (hx2 : x < p ^ N) : ∀ (k n : Nat) (v : Int), k < n → k ≤ 8 → m_X1_valueAt_9 S n r (jl x) (ji N) (jl (v % p ^ N)) (ji ((k : Int) - 1)) = some (jl (hz c x k v % p ^ N)) := by
  have hp := pk_p h
  have q5 := pw_K h hN
  intro k
  induction k with
  | zero =>
    intro n v hk hk2
    obtain ⟨n, rfl⟩ : ∃ k, n = k + 1 := ⟨n - 1, by omega⟩
    unfold m_X1_valueAt_9
    rw [if_pos (by decide)]
    rfl
  | succ k ih =>
    intro n v hk hk2
    obtain ⟨n, rfl⟩ : ∃ k, n = k + 1 := ⟨n - 1, by omega⟩
    have r1 := em_lt (a := v) q5.1
    have r2 := em_lt (a := v % p ^ N * x) q5.1
    obtain ⟨c1, c2, c3⟩ := hc k (by omega)
    unfold m_X1_valueAt_9
    rw [show (((k + 1 : Nat) : Int) - 1) = (k : Int) by omega, if_neg (fun q => by have := (ji_ltl (a := k) (b := 0) ⟨by omega, by omega⟩ rfl (by decide)).mp q; omega), cf_product h hS hN r1.1 r1.2 hx hx2, ho_s, if_neg (by rw [ji_oob ⟨by omega, by omega⟩]; omega), ji_nat ⟨by omega, by omega⟩, show ((k : Int)).toNat = k by omega, c1, ji_l ⟨by omega, by omega⟩, jl_add, cf_reduce h hS ⟨by omega, by omega⟩ (by omega) hN, ho_s, show (-1 : Int32) = ji (-1) from rfl, ji_add, show (k : Int) + -1 = k - 1 by omega]
    rw [show (v % p ^ N * x % p ^ N + c k) % p ^ N = (v * x + c k) % p ^ N from emod_of_dv (by
      obtain ⟨k1, e1⟩ := dv_mod (a := v % p ^ N * x) (m := p ^ N)
      obtain ⟨k2, e2⟩ := dv_mod (a := v) (m := p ^ N)
      exact ⟨_, alg2 e1 e2⟩)]
    exact ih n (v * x + c k) (by omega) (by omega)
theorem cf_valueAt (h : pk p K) (hS : fc S p K) {r : Nat} (hr : kc r = 5) {c : Nat → Int} (hc : cf8 (S.1 r) c) {x : Int} {N : Nat} (hN : N ≤ K) (hx : 0 ≤ x) (hx2 : x < p ^ N) : m_X1_valueAt S r (jl x) (ji N) = some (jl (hz c x 8 0 % p ^ N)) := by
  unfold m_X1_valueAt
  have := cf_va_loop h hS hc hN hx hx2 8 fu 0 (by rw [fu_v]; omega) (by omega)
  rw [Int.zero_emod] at this
  rw [if_pos hr]
  exact this
theorem cf_sa_loop (h : pk p K) (hS : fc S p K) {r : Nat} {c : Nat → Int} (hc : cf8 (S.1 r) c) {x : Int} {N : Nat} (hN : N ≤ K) (hx : 0 ≤ x) (hx2 : x < p ^ N) : ∀ (k n : Nat) (v : Int), k < n → k ≤ 7 → m_X1_slopeAt_9 S n r (jl x) (ji N) (jl (v % p ^ N)) (ji (k : Int)) = some (jl (hz (sl c) x k v % p ^ N)) := by
  have hp := pk_p h
  have q5 := pw_K h hN
  intro k
  induction k with
  | zero =>
    intro n v hk hk2
    obtain ⟨n, rfl⟩ : ∃ k, n = k + 1 := ⟨n - 1, by omega⟩
    unfold m_X1_slopeAt_9
    rw [if_pos (by decide)]
    rfl
  | succ k ih =>
    intro n v hk hk2
    obtain ⟨n, rfl⟩ : ∃ k, n = k + 1 := ⟨n - 1, by omega⟩
    have r1 := em_lt (a := v) q5.1
    have r2 := em_lt (a := v % p ^ N * x) q5.1
    obtain ⟨c1, c2, c3⟩ := hc (k + 1) (by omega)
    have b1 : (((k + 1 : Nat) : Int)) * c (k + 1) ≤ 8000000 ∧ -8000000 ≤ (((k + 1 : Nat) : Int)) * c (k + 1) := by
      have : k = 0 ∨ k = 1 ∨ k = 2 ∨ k = 3 ∨ k = 4 ∨ k = 5 ∨ k = 6 := by omega
      rcases this with rfl | rfl | rfl | rfl | rfl | rfl | rfl <;> omega
    unfold m_X1_slopeAt_9
    rw [if_neg (fun q => by have := (ji_ltl (a := ((k + 1 : Nat) : Int)) (b := 1) ⟨by omega, by omega⟩ rfl (by decide)).mp q; omega), cf_product h hS hN r1.1 r1.2 hx hx2, ho_s, if_neg (by rw [ji_oob ⟨by omega, by omega⟩]; omega), ji_nat ⟨by omega, by omega⟩, show (((k + 1 : Nat) : Int)).toNat = k + 1 by omega, c1, ji_l ⟨by omega, by omega⟩, ji_l ⟨by omega, by omega⟩, jl_mul, jl_add, cf_reduce h hS ⟨by omega, by omega⟩ (by omega) hN, ho_s, show (-1 : Int32) = ji (-1) from rfl, ji_add, show ((k + 1 : Nat) : Int) + -1 = k by omega]
    rw [show (v % p ^ N * x % p ^ N + ((k + 1 : Nat) : Int) * c (k + 1)) % p ^ N = (v * x + sl c k) % p ^ N from emod_of_dv (by
      obtain ⟨k1, e1⟩ := dv_mod (a := v % p ^ N * x) (m := p ^ N)
      obtain ⟨k2, e2⟩ := dv_mod (a := v) (m := p ^ N)
      exact ⟨_, alg2 e1 e2⟩)]
    exact ih n (v * x + sl c k) (by omega) (by omega)
theorem cf_slopeAt (h : pk p K) (hS : fc S p K) {r : Nat} (hr : kc r = 5) {c : Nat → Int} (hc : cf8 (S.1 r) c) {x : Int} {N : Nat} (hN : N ≤ K) (hx : 0 ≤ x) (hx2 : x < p ^ N) : m_X1_slopeAt S r (jl x) (ji N) = some (jl (hz (sl c) x 7 0 % p ^ N)) := by
  unfold m_X1_slopeAt
  have := cf_sa_loop h hS hc hN hx hx2 7 fu 0 (by rw [fu_v]; omega) (by omega)
  rw [Int.zero_emod] at this
  rw [if_pos hr]
  exact this
end
