/-! square roots -/
theorem tdiv2_bd {v : Int} (h1 : -60 ≤ v) (h2 : v ≤ 60) : -30 ≤ v.tdiv 2 ∧ v.tdiv 2 ≤ 30 := by
  have h3 := Int.mul_tdiv_add_tmod v 2
  have h4 := Int.natAbs_tmod v 2
  have h5 : (v.tmod 2).natAbs < 2 := by rw [h4]; exact Nat.mod_lt _ (by decide)
  generalize v.tdiv 2 = q at *
  generalize v.tmod 2 = r at *
  omega
theorem sh1 : ∀ k : Fin 63, (1 : Int64) <<< ((ji ((k.val : Nat) : Int)).toInt64 &&& 63) = jl (2 ^ k.val) := by decide +kernel
theorem and0 (x k : Nat) : x &&& 2 ^ k = 0 ↔ x / 2 ^ k % 2 = 0 := by
  have e : x.testBit k = decide (x / 2 ^ k % 2 = 1) := Nat.testBit_eq_decide_div_mod_eq
  constructor
  · intro h
    have h1 : (x &&& 2 ^ k).testBit k = false := by rw [h, Nat.zero_testBit]
    rw [Nat.testBit_and, Nat.testBit_two_pow_self, Bool.and_true, e] at h1
    have : ¬ x / 2 ^ k % 2 = 1 := by simpa using h1
    omega
  · intro h
    have h1 : x.testBit k = false := by rw [e]; simp; omega
    apply Nat.eq_of_testBit_eq
    intro i
    rw [Nat.testBit_and, Nat.zero_testBit]
    by_cases q : k = i
    · subst q; rw [h1, Bool.false_and]
    · rw [Nat.testBit_two_pow_of_ne q, Bool.and_false]
theorem bit_at {k : Nat} (hk : k < 62) (q : Int) : jl (2 ^ k * q) &&& jl (2 ^ k) = 0 ↔ q % 2 = 0 := by
  have P : (0 : Int) < 2 ^ k := Int.pow_pos (by omega)
  have P2 : (0 : Int) < 2 ^ (64 - k) := Int.pow_pos (by omega)
  have e64 : ((2 ^ 64 : Nat) : Int) = 2 ^ k * 2 ^ (64 - k) := by rw [← pw_add, show k + (64 - k) = 64 by omega]; decide
  obtain ⟨R, hR⟩ : ∃ R : Nat, q % 2 ^ (64 - k) = R := ⟨(q % 2 ^ (64 - k)).toNat, by have := em_lt (a := q) P2; omega⟩
  have en : (2 : Int) ^ k = ((2 ^ k : Nat) : Int) := by simp
  have e1 : (2 ^ k * q) % ((2 ^ 64 : Nat) : Int) = ((2 ^ k * R : Nat) : Int) := by
    rw [e64, Int.mul_emod_mul_of_pos _ _ P, hR, Int.natCast_mul, en]
  have e2 : ((2 : Int) ^ k) % ((2 ^ 64 : Nat) : Int) = ((2 ^ k : Nat) : Int) := by
    rw [en]
    refine Int.emod_eq_of_lt (by omega) ?_
    exact_mod_cast Nat.pow_lt_pow_right (by omega) (show k < 64 by omega)
  have e3 : (jl (2 ^ k * q) &&& jl (2 ^ k)).toBitVec.toNat = 2 ^ k * R &&& 2 ^ k := by
    rw [Int64.toBitVec_and, BitVec.toNat_and]
    show (BitVec.ofInt 64 _).toNat &&& (BitVec.ofInt 64 _).toNat = _
    rw [BitVec.toNat_ofInt, BitVec.toNat_ofInt, e1, e2]
    rfl
  have e4 : jl (2 ^ k * q) &&& jl (2 ^ k) = 0 ↔ 2 ^ k * R &&& 2 ^ k = 0 := by
    rw [← e3]
    constructor
    · intro h; rw [h]; rfl
    · intro h
      apply Int64.toBitVec_inj.mp
      apply BitVec.eq_of_toNat_eq
      rw [h]; rfl
  rw [e4, and0, Nat.mul_div_cancel_left _ (by exact_mod_cast P)]
  have e5 : (R : Int) % 2 = q % 2 := by
    rw [← hR]
    refine Int.emod_emod_of_dvd q ?_
    have := pw_dvd 2 (show 1 ≤ 64 - k by omega)
    rwa [pw1] at this
  omega
theorem alg13 {r u t P Q s : Int} (e1 : r * r - u = 2 * P * Q) (e2 : Q + r = 2 * t) (e3 : P * P = 4 * P * s) : (r + P) * (r + P) - u = 4 * P * (t + s) := by grind
section
variable {S SC SM : St} {K : Nat}
theorem two_loop (h : pk 2 K) (hc : fc SC 2 K) (hm : fm SM 2 K) {rx : Nat} {N : Nat} {u : Int} (hN : N ≤ K) (h3 : SC.1 rx 3 = ji N) (h4 : SC.2 rx 4 = jl u) (hu : 0 ≤ u) (hu2 : rl u) : ∀ (j n k : Nat) (r : Int), k + j = N → 3 ≤ k → j < n → 0 ≤ r → r < 2 ^ (k - 1) → r % 2 = 1 → 2 ^ k ∣ r * r - u → ∃ w, 0 ≤ w ∧ w < 2 ^ (N - 1) ∧ w % 2 = 1 ∧ m_X3_squareOfTwo_31 n SC rx (jl r) (ji k) = m_X3_squareOfTwo_73 SC rx (jl w) ∧ m_X4_rootTwo_6 SM n (jl u) (ji N) (jl r) (ji k) = some (jl w) := by
  have hK := pk_K h
  intro j
  induction j with
  | zero =>
    intro n k r hk hk3 hn hr hr2 hr3 hd
    obtain ⟨n, rfl⟩ : ∃ t, n = t + 1 := ⟨n - 1, by omega⟩
    have e : k = N := by omega
    subst e
    have b1 := pw_K h (show k - 1 ≤ K by omega)
    unfold m_X3_squareOfTwo_31 m_X4_rootTwo_6
    have le : ji (k : Int) ≤ ji (k : Int) := (ji_le ⟨by omega, by omega⟩ ⟨by omega, by omega⟩).mpr (by omega)
    have e1 : ji (k : Int) - 1 = ji (k - 1 : Nat) := by rw [show (1 : Int32) = ji 1 from rfl, ji_sub]; congr 1; omega
    refine ⟨r, hr, hr2, hr3, ?_, ?_⟩
    · rw [h3, if_pos le]
    · rw [if_pos le, e1, if_neg (mf_oob h (show k - 1 ≤ K by omega)), mf_pw h hm (show k - 1 ≤ K by omega), if_neg (jl_ne0 ⟨by omega, by omega⟩ (by omega)), jl_mod ⟨by omega, by omega⟩ hr ⟨by omega, by omega⟩, Int.emod_eq_of_lt hr hr2]
  | succ j ih =>
    intro n k r hk hk3 hn hr hr2 hr3 hd
    obtain ⟨n, rfl⟩ : ∃ t, n = t + 1 := ⟨n - 1, by omega⟩
    have nle : ¬ ji (N : Int) ≤ ji (k : Int) := fun q => by have := (ji_le (a := N) (b := k) ⟨by omega, by omega⟩ ⟨by omega, by omega⟩).mp q; omega
    have e1 : ji (k : Int) - 1 = ji (k - 1 : Nat) := by rw [show (1 : Int32) = ji 1 from rfl, ji_sub]; congr 1; omega
    have e2 : ji (k : Int) + 1 = ji (k + 1 : Nat) := by rw [show (1 : Int32) = ji 1 from rfl, ji_add]; congr 1
    have b1 := pw_K h (show k - 1 ≤ K by omega)
    have b2 := pw_K h (show k + 1 ≤ K by omega)
    have le1 := pw_le (p := 2) (by omega) (show k - 1 ≤ k + 1 by omega)
    obtain ⟨q, hq⟩ := hd
    have s1 := sh1 ⟨k, by omega⟩
    have s2 := sh1 ⟨k - 1, by omega⟩
    dsimp only at s1 s2
    have r1 := em_lt (a := u) b2.1
    have r2 := em_lt (a := r * r) b2.1
    have pk1 : (2 : Int) ^ k = 2 * 2 ^ (k - 1) := by
      have := pw_s 2 (k - 1)
      rw [show k - 1 + 1 = k by omega] at this
      omega
    have pk2 : (2 : Int) ^ (k + 1) = 4 * 2 ^ (k - 1) := by rw [pw_s, pk1]; omega
    -- both ask the same
    have ask : r * r % 2 ^ (k + 1) = u % 2 ^ (k + 1) ↔ q % 2 = 0 := by
      rw [Int.emod_eq_emod_iff_emod_sub_eq_zero, hq]
      constructor
      · intro z
        obtain ⟨t, ht⟩ := Int.dvd_of_emod_eq_zero z
        rw [pw_s, Int.mul_assoc] at ht
        have := Int.eq_of_mul_eq_mul_left (show (2 : Int) ^ k ≠ 0 by omega) ht
        omega
      · intro z
        refine Int.emod_eq_zero_of_dvd ⟨q / 2, ?_⟩
        rw [pw_s, Int.mul_assoc]
        congr 1
        omega
    unfold m_X3_squareOfTwo_31 m_X4_rootTwo_6
    rw [h3, h4, if_neg nle, if_neg nle, e1, e2, s1, s2, jl_mul, jl_sub, hq, if_neg (mf_oob h (show k + 1 ≤ K by omega)), mf_pw h hm (show k + 1 ≤ K by omega), mf_times b2.1 b2.2 hr (by omega) hr ⟨by omega, by omega⟩, ho_s, if_neg (jl_ne0 ⟨by omega, by omega⟩ (by omega)), jl_mod hu2 hu ⟨by omega, by omega⟩]
    unfold m_X3_squareOfTwo_67 m_X4_rootTwo_55
    dsimp only
    rw [e2, jl_add]
    by_cases c : q % 2 = 0
    · rw [if_pos ((bit_at (by omega) q).mpr c), if_pos (by rw [ask.mpr c]), show (0 : Int64) = jl 0 from rfl, jl_add, Int.add_zero]
      refine ih n (k + 1) r (by omega) (by omega) (by omega) hr ?_ hr3 ⟨q / 2, ?_⟩
      · rw [show k + 1 - 1 = k by omega]; omega
      · rw [hq, pw_s, Int.mul_assoc]; congr 1; omega
    · rw [if_neg (fun z => c ((bit_at (by omega) q).mp z)), if_neg (fun z => c (ask.mp ((jl_eq ⟨by omega, by omega⟩ ⟨by omega, by omega⟩).mp z))), if_neg (mf_oob h (show k - 1 ≤ K by omega)), mf_pw h hm (show k - 1 ≤ K by omega), jl_add]
      obtain ⟨s, hs⟩ : ∃ s : Int, (2 : Int) ^ (k - 1) = 4 * s := ⟨2 ^ (k - 3), by
        rw [show k - 1 = k - 3 + 2 by omega, pw_add, show (2 : Int) ^ 2 = 4 from by decide, Int.mul_comm]⟩
      refine ih n (k + 1) (r + 2 ^ (k - 1)) (by omega) (by omega) (by omega) (by omega) ?_ ?_ ?_
      · rw [show k + 1 - 1 = k by omega]; omega
      · omega
      · rw [pk1] at hq
        refine ⟨(q + r) / 2 + s, ?_⟩
        rw [pk2]
        exact alg13 hq (by omega) (by rw [hs]; grind)
end
section
variable {S SC SM : St} {p : Int} {K : Nat}
/-- the lesser root of the first figure: both find the same -/
theorem first_both (h : pk p K) (hc : fc SC p K) (hm : fm SM p K) {u : Int} (hu : 0 ≤ u) (hu2 : rl u) : ∀ (n : Nat) (i : Int), 1 ≤ i → i ≤ p → p - i < n → ∃ f, m_X1_firstSquareRoot_2 SC n (ji (u % p)) (ji i) = some (ji f) ∧ m_X4_firstRoot_2 SM n (jl u) (ji i) = some (ji f) ∧ 0 ≤ f ∧ f < p ∧ (f ≠ 0 → p ∣ f * f - u) := by
  have hp := pk_p h
  have r1 := em_lt (a := u) (show 0 < p by omega)
  intro n
  induction n with
  | zero => intro i _ _ _; omega
  | succ n ih =>
    intro i h1 h2 h3
    unfold m_X1_firstSquareRoot_2 m_X4_firstRoot_2
    rw [mf_p h hm, hc.1, hm.1]
    by_cases c1 : p ≤ i
    · have le : ji p ≤ ji i := (ji_le ⟨by omega, by omega⟩ ⟨by omega, by omega⟩).mpr c1
      rw [if_pos le, if_pos le]
      exact ⟨0, rfl, rfl, by omega, by omega, fun q => absurd rfl q⟩
    · have nle : ¬ ji p ≤ ji i := fun q => c1 ((ji_le ⟨by omega, by omega⟩ ⟨by omega, by omega⟩).mp q)
      have m1 := sq_bd (show 0 ≤ i by omega) (show i < 32 by omega) (show 0 ≤ i by omega) (show i < 32 by omega)
      have m2 := em_lt (a := i * i) (show 0 < p by omega)
      rw [if_neg nle, if_neg nle, if_neg (ji_ne0 ⟨by omega, by omega⟩ (by omega)), if_neg (jl_ne0 ⟨by omega, by omega⟩ (by omega)), if_neg (jl_ne0 ⟨by omega, by omega⟩ (by omega)), ji_l ⟨by omega, by omega⟩, jl_mul, ji_mul, ji_mod ⟨by omega, by omega⟩ m1.1 ⟨by omega, by omega⟩, jl_mod ⟨by omega, by omega⟩ m1.1 ⟨by omega, by omega⟩, jl_mod hu2 hu ⟨by omega, by omega⟩]
      by_cases c2 : i * i % p = u % p
      · rw [if_pos (by rw [c2]), if_pos (by rw [c2])]
        refine ⟨i, rfl, rfl, by omega, by omega, fun _ => ?_⟩
        exact Int.dvd_of_emod_eq_zero (Int.emod_eq_emod_iff_emod_sub_eq_zero.mp c2)
      · rw [if_neg (fun q => c2 ((ji_eq ⟨by omega, by omega⟩ ⟨by omega, by omega⟩).mp q)), if_neg (fun q => c2 ((jl_eq ⟨by omega, by omega⟩ ⟨by omega, by omega⟩).mp q)), show (1 : Int32) = ji 1 from rfl, ji_add]
        exact ih (i + 1) (by omega) (by omega) (by omega)
theorem alg14 {F x w m t k : Int} (e1 : 2 * x * w - 1 = m * t) {y u : Int} (hF : x * x - u = F) (e2 : y - (x - F * w) = m * k) : y * y - u = m * (k * (y + x - F * w) - F * t) + F * F * (w * w) := by
  have e3 : y = x - F * w + m * k := by omega
  have e4 : (x - F * w) * (x - F * w) - u = F * (1 - 2 * x * w) + F * F * (w * w) := by grind
  have e5 : y * y = (x - F * w) * (x - F * w) + m * k * (y + x - F * w) := by rw [e3]; grind
  have e6 : F * (1 - 2 * x * w) = - (F * (m * t)) := by rw [← e1]; grind
  grind
theorem sq_newt {u x y w m d e : Int} (hd : d ∣ x * x - u) (he : e ∣ d * d) (hem : e ∣ m) (hdm : d ∣ m) (hw : m ∣ 2 * x * w - 1) (hy : m ∣ y - (x - (x * x - u) * w)) : e ∣ y * y - u ∧ d ∣ y - x := by
  obtain ⟨t, ht⟩ := hw
  obtain ⟨k, hk⟩ := hy
  refine ⟨?_, ?_⟩
  · rw [alg14 ht rfl hk]
    refine Int.dvd_add (Int.dvd_trans hem (Int.dvd_mul_right _ _)) ?_
    refine Int.dvd_trans (Int.dvd_trans he (Int.mul_dvd_mul hd hd)) (Int.dvd_mul_right _ _)
  · have e2 : y - x = m * k - (x * x - u) * w := by omega
    rw [e2]
    exact Int.dvd_sub (Int.dvd_trans hdm (Int.dvd_mul_right _ _)) (Int.dvd_trans hd (Int.dvd_mul_right _ _))
theorem alg15a {s x w m k5 k6 : Int} (e5 : s * w - 1 = m * k5) (e6 : s - 2 * x = m * k6) : 2 * x * w - 1 = m * (k5 - k6 * w) := by
  have e : s = 2 * x + m * k6 := by omega
  subst e
  grind
theorem alg15b {y x X u V w W m k1 k2 k3 k4 : Int} (e1 : y - (x - W) = m * k1) (e2 : W - V * w = m * k2) (e3 : V - (X - u) = m * k3) (e4 : X - x * x = m * k4) : y - (x - (x * x - u) * w) = m * (k1 - k2 - k3 * w - k4 * w) := by
  have f4 : X = x * x + m * k4 := by omega
  subst f4
  have f3 : V = x * x + m * k4 - u + m * k3 := by omega
  subst f3
  have f2 : W = (x * x + m * k4 - u + m * k3) * w + m * k2 := by omega
  subst f2
  have f1 : y = x - ((x * x + m * k4 - u + m * k3) * w + m * k2) + m * k1 := by omega
  subst f1
  clear e1 e2 e3 e4
  grind
theorem odd_newt (h : pk p K) (hp2 : p ≠ 2) (hc : fc SC p K) {rx : Nat} {N : Nat} {u f : Int} (hN : N ≤ K) (hN1 : 1 ≤ N) (h4 : SC.2 rx 4 = jl u) (hu : 0 ≤ u) (hu2 : u < p ^ N) (hf : ¬ p ∣ f) : ∀ (n s : Nat) (x : Int), 1 ≤ s → s ≤ 128 → (N : Int) - s < n → 0 < n → 0 ≤ x → x < p ^ N → p ^ (min s N) ∣ x * x - u → p ∣ x - f → ∃ y, m_X3_squareOfOdd_37 n SC rx (ji N) (jl x) (ji s) = m_X3_squareOfOdd_128 SC rx (ji N) (jl y) ∧ 0 ≤ y ∧ y < p ^ N ∧ p ^ N ∣ y * y - u ∧ p ∣ y - f := by
  have hp := pk_p h
  have hK := pk_K h
  have q5 := pw_K h hN
  intro n
  induction n with
  | zero => intro s x _ _ _ hn; omega
  | succ n ih =>
    intro s x hs hs2 hn _ hx hx2 hd hxf
    unfold m_X3_squareOfOdd_37
    by_cases c1 : N ≤ s
    · rw [if_pos ((ji_le ⟨by omega, by omega⟩ ⟨by omega, by omega⟩).mpr (by omega))]
      refine ⟨x, rfl, hx, hx2, ?_, hxf⟩
      rwa [show min s N = N by omega] at hd
    · have hx1 : ¬ p ∣ x := ndv hxf hf
      have h2x : ¬ p ∣ 2 * x := fun z => by
        rcases pk_prime h z with q | q
        · have := Int.le_of_dvd (by omega) q
          omega
        · exact hx1 q
      have r1 := em_lt (a := x * x) q5.1
      have r2 := em_lt (a := x * x % p ^ N - u) q5.1
      have r3 := em_lt (a := 2 * x) q5.1
      obtain ⟨w, i1, i2, i3, i4⟩ := cf_inverse h hc hN hN1 r3.1 r3.2 (unit_mod hp.1 hN1 h2x)
      have r4 := em_lt (a := (x * x % p ^ N - u) % p ^ N * w) q5.1
      have r5 := em_lt (a := x - (x * x % p ^ N - u) % p ^ N * w % p ^ N) q5.1
      rw [if_neg (fun q => c1 (by have := (ji_le (a := N) (b := s) ⟨by omega, by omega⟩ ⟨by omega, by omega⟩).mp q; omega)), cf_product h hc hN hx hx2 hx hx2, ho_s, h4, jl_sub, cf_reduce h hc ⟨by omega, by omega⟩ (by omega) hN, ho_s, show (2 : Int64) = jl 2 from rfl, jl_mul, cf_reduce h hc ⟨by omega, by omega⟩ (by omega) hN, ho_s, i1, ho_s, cf_product h hc hN r2.1 r2.2 i2 i3, ho_s, jl_sub, cf_reduce h hc ⟨by omega, by omega⟩ (by omega) hN, ho_s, show (2 : Int32) = ji 2 from rfl, ji_mul, show ((s : Int) * 2) = ((s * 2 : Nat) : Int) by omega]
      obtain ⟨k1, e1⟩ := dv_mod (a := x - (x * x % p ^ N - u) % p ^ N * w % p ^ N) (m := p ^ N)
      obtain ⟨k2, e2⟩ := dv_mod (a := (x * x % p ^ N - u) % p ^ N * w) (m := p ^ N)
      obtain ⟨k3, e3⟩ := dv_mod (a := x * x % p ^ N - u) (m := p ^ N)
      obtain ⟨k4, e4⟩ := dv_mod (a := x * x) (m := p ^ N)
      obtain ⟨k5, e5⟩ := i4
      obtain ⟨k6, e6⟩ := dv_mod (a := 2 * x) (m := p ^ N)
      have g1 := alg15a e5 e6
      have g2 := alg15b e1 e2 e3 e4
      obtain ⟨n1, n2⟩ := sq_newt (m := p ^ N) hd (pw_min p) (pw_dvd p (by omega)) (pw_dvd p (by omega)) ⟨_, g1⟩ ⟨_, g2⟩
      refine ih (s * 2) _ (by omega) (by omega) (by omega) (by omega) r5.1 r5.2 n1 ?_
      have n3 := Int.dvd_trans (dv_p hp.1 (show 1 ≤ min s N by omega)) n2
      have := Int.dvd_add n3 hxf
      generalize (x - (x * x % p ^ N - u) % p ^ N * w % p ^ N) % p ^ N = Y at *
      rwa [show Y - x + (x - f) = Y - f by omega] at this
theorem sq_hens (h : pk p K) (hp2 : p ≠ 2) {a b u : Int} {N : Nat} (ha : p ^ N ∣ a * a - u) (hb : p ^ N ∣ b * b - u) (hab : p ∣ a - b) (hs : ¬ p ∣ b) : p ^ N ∣ a - b := by
  have hp := pk_p h
  have hU : ¬ p ∣ a + b := by
    have : ¬ p ∣ 2 * b := fun z => by
      rcases pk_prime h z with q | q
      · have := Int.le_of_dvd (by omega) q
        omega
      · exact hs q
    refine ndv ?_ this
    rwa [show a + b - 2 * b = a - b by omega]
  refine uc h hU ?_
  have := Int.dvd_sub ha hb
  rwa [show a * a - u - (b * b - u) = (a - b) * (a + b) by grind] at this
/-- the search of the next figure -/
theorem odd_in (h : pk p K) (hp2 : p ≠ 2) (hm : fm SM p K) {N k : Nat} {u y : Int} (hN : N ≤ K) (hk1 : 1 ≤ k) (hkN : k < N) (hu : 0 ≤ u) (hu2 : rl u) (hy : p ^ N ∣ y * y - u) (hyp : ¬ p ∣ y) {k8 : Int64 → Int32 → Int64 → Int32 → Option Int64} : ∀ (j n : Nat) (d : Int), 0 ≤ d → d + j = y / p ^ k % p → j < n → m_X4_rootOdd_28 SM k8 n (jl u) (ji N) (jl (y % p ^ k)) (ji k) (jl (p ^ (k + 1))) (ji d) = k8 (jl u) (ji N) (jl (y % p ^ (k + 1))) (ji (k + 1 : Nat)) := by
  have hp := pk_p h
  have hK := pk_K h
  obtain ⟨n1, n2, n3⟩ := nextf hp.1 y k
  have b2 := pw_K h (show k + 1 ≤ K by omega)
  have b1 := pw_K h (show k ≤ K by omega)
  have e2 : ji (k : Int) + 1 = ji (k + 1 : Nat) := by rw [show (1 : Int32) = ji 1 from rfl, ji_add]; congr 1
  have hy1 : p ^ (k + 1) ∣ y * y - u := Int.dvd_trans (pw_dvd p (by omega)) hy
  intro j
  induction j with
  | zero =>
    intro n d hd hdj hn
    obtain ⟨n, rfl⟩ : ∃ t, n = t + 1 := ⟨n - 1, by omega⟩
    obtain ⟨c1, c2, c3⟩ := bdf hp.1 (y := y) (k := k) hd (show d < p by omega)
    have ed : d = y / p ^ k % p := by omega
    have eX : y % p ^ k + d * p ^ k = y % p ^ (k + 1) := by rw [n1, ed]
    unfold m_X4_rootOdd_28 m_X4_rootOdd_75
    rw [if_neg (mf_oob h (show k ≤ K by omega)), if_neg (mf_oob h (show k ≤ K by omega)), if_neg (mf_oob h (show k ≤ K by omega)), mf_pw h hm (show k ≤ K by omega), ji_l ⟨by omega, by omega⟩, jl_mul, jl_add, mf_times b2.1 b2.2 c1 c2 c1 ⟨by omega, by omega⟩, ho_s, if_neg (jl_ne0 ⟨by omega, by omega⟩ (by omega)), jl_mod hu2 hu ⟨by omega, by omega⟩, if_pos, eX, e2]
    congr 1
    rw [eX]
    refine emod_of_dv ?_
    obtain ⟨t, ht⟩ := dv_mod (a := y) (m := p ^ (k + 1))
    obtain ⟨s, hs⟩ := hy1
    generalize y % p ^ (k + 1) = Y at *
    generalize p ^ (k + 1) = M at *
    exact ⟨s + t * (Y + y), by grind⟩
  | succ j ih =>
    intro n d hd hdj hn
    obtain ⟨n, rfl⟩ : ∃ t, n = t + 1 := ⟨n - 1, by omega⟩
    obtain ⟨c1, c2, c3⟩ := bdf hp.1 (y := y) (k := k) hd (show d < p by omega)
    unfold m_X4_rootOdd_28
    have m3 := em_lt (a := u) b2.1
    have m4 := em_lt (a := (y % p ^ k + d * p ^ k) * (y % p ^ k + d * p ^ k)) b2.1
    rw [if_neg (mf_oob h (show k ≤ K by omega)), if_neg (mf_oob h (show k ≤ K by omega)), mf_pw h hm (show k ≤ K by omega), ji_l ⟨by omega, by omega⟩, jl_mul, jl_add, mf_times b2.1 b2.2 c1 c2 c1 ⟨by omega, by omega⟩, ho_s, if_neg (jl_ne0 ⟨by omega, by omega⟩ (by omega)), jl_mod hu2 hu ⟨by omega, by omega⟩, if_neg, show (1 : Int32) = ji 1 from rfl, ji_add]
    · exact ih n (d + 1) (by omega) (by omega) (by omega)
    · intro z
      have z2 := (jl_eq ⟨by omega, by omega⟩ ⟨by omega, by omega⟩).mp z
      have z3 := Int.dvd_of_emod_eq_zero (Int.emod_eq_emod_iff_emod_sub_eq_zero.mp z2)
      have z4 := sq_hens h hp2 z3 hy1 (dv_nextf hp.1 y d hk1) hyp
      have := onef hp.1 hd (show d < p by omega) z4
      omega
theorem odd_ref (h : pk p K) (hp2 : p ≠ 2) (hm : fm SM p K) {N : Nat} {u y : Int} (hN : N ≤ K) (hu : 0 ≤ u) (hu2 : rl u) (hy : p ^ N ∣ y * y - u) (hyp : ¬ p ∣ y) (hy0 : 0 ≤ y) (hyN : y < p ^ N) : ∀ (j n k : Nat), k + j = N → 1 ≤ k → j < n → m_X4_rootOdd_8 SM n (jl u) (ji N) (jl (y % p ^ k)) (ji k) = some (jl y) := by
  have hp := pk_p h
  have hK := pk_K h
  intro j
  induction j with
  | zero =>
    intro n k hk hk1 hn
    obtain ⟨n, rfl⟩ : ∃ t, n = t + 1 := ⟨n - 1, by omega⟩
    unfold m_X4_rootOdd_8
    rw [if_pos ((ji_le ⟨by omega, by omega⟩ ⟨by omega, by omega⟩).mpr (by omega)), show k = N by omega, Int.emod_eq_of_lt hy0 hyN]
  | succ j ih =>
    intro n k hk hk1 hn
    obtain ⟨n, rfl⟩ : ∃ t, n = t + 1 := ⟨n - 1, by omega⟩
    obtain ⟨n1, n2, n3⟩ := nextf hp.1 y k
    have e2 : ji (k : Int) + 1 = ji (k + 1 : Nat) := by rw [show (1 : Int32) = ji 1 from rfl, ji_add]; congr 1
    unfold m_X4_rootOdd_8
    rw [if_neg (fun q => by have := (ji_le (a := N) (b := k) ⟨by omega, by omega⟩ ⟨by omega, by omega⟩).mp q; omega), e2, if_neg (mf_oob h (show k + 1 ≤ K by omega)), mf_pw h hm (show k + 1 ≤ K by omega)]
    have := odd_in h hp2 hm hN hk1 (show k < N by omega) hu hu2 hy hyp (k8 := fun x1 x3 x5 x7 => m_X4_rootOdd_8 SM n x1 x3 x5 x7) (y / p ^ k % p).toNat fu 0 (by omega) (by omega) (by rw [fu_v]; omega)
    rw [show (0 : Int32) = ji 0 from rfl, this]
    exact ih n (k + 1) (by omega) (by omega) (by omega)
end
section
variable {SC SM : St}
theorem R_square (R : Rel SC SM) (x : Int32) : ∃ r SC1 SM1, m_X3_square SC x = some (r, SC1) ∧ m_X4_square SM x = some (r, SM1) ∧ Rel SC1 SM1 := by
  have R0 := R
  obtain ⟨p, K, m, z, R⟩ := R
  obtain ⟨h1, h2, h3, h4, h5, h6, -⟩ := id R
  have hp := pk_p h1
  have hK := pk_K h1
  unfold m_X3_square m_X4_square
  rcases fnd R x with ⟨e1, e2⟩ | ⟨i, hi, rfl, e1, e2⟩
  · rw [e1, e2, ho_s, ho_s, if_pos rfl]; exact ⟨_, _, _, rfl, rfl, R0⟩
  · obtain ⟨k, v, n, u, a, b, B, bv1, bv2, -⟩ := R.2.2.2.2.2.2.2.2.2.2.2 i hi
    obtain ⟨r1, r2, r3, r4, r5, r6⟩ := vok_r h1 B.2.2
    have hi64 : i < 64 := by omega
    have hrx := kcV (show i < 63 by omega)
    rw [e1, e2, ho_s, ho_s, if_neg (show ¬ (1 : Int32) = 0 by decide)]
    simp only [if_neg (oobc hi64), natc hi64]
    rw [if_pos hrx, cs_nought h1 hrx B.1 B.2.2, ms_nought h1 hi64 B.2.1 B.2.2, ho_s, ho_s]
    by_cases q : ngt k n
    · simp only [if_pos q, if_neg (show ¬ (1 : Int32) = 0 by decide)]; exact ⟨_, _, _, rfl, rfl, R0⟩
    simp only [if_neg q]
    rw [if_pos trivial, if_pos trivial, cs_zero h1 hrx B.1 B.2.2, ms_zero h1 hi64 B.2.1 B.2.2, ho_s, ho_s]
    by_cases q2 : zro k a
    · simp only [if_pos q2, if_neg (show ¬ (1 : Int32) = 0 by decide)]; exact ⟨_, _, _, rfl, rfl, R0⟩
    simp only [if_neg q2]
    have hnK := B.2.2.2.2.2.2.1
    have u0 := B.2.2.2.2.2.2.2.1
    have u1 := B.2.2.2.2.2.2.2.2.1
    have hu : ¬ p ∣ u := by
      by_cases qk : k = 1
      · exact (B.2.2.2.2.2.2.2.2.2.1 qk).2.2.2.2.2.2.2.2 (fun zz => q2 ⟨qk, zz⟩)
      · exact B.2.2.2.2.2.2.2.2.2.2 qk (fun zz => q ⟨qk, zz⟩)
    have n1 : 1 ≤ n := by
      by_cases qk : k = 1
      · have := (B.2.2.2.2.2.2.2.2.2.1 qk).1; omega
      · have : n ≠ 0 := fun zz => q ⟨qk, zz⟩
        omega
    have b1 := pw_K h1 hnK
    rw [if_pos trivial, if_pos trivial, B.1.2.1, B.2.1.2.1]
    by_cases c3 : rm32 (ji v) 2 = 0
    · simp only [if_pos c3]
      rw [h2.1, h3.1]
      -- the number that both make
      have fin : ∀ (N : Nat) (w : Int), N ≤ K → 0 ≤ w → w < p ^ N → (N ≠ 0 → ¬ p ∣ w) → ∃ SC2 SM2, (m_X2_set SC 126 (0 : Int32) (ji v / (2 : Int32)) (ji N) (jl w)) = some SC2 ∧ m_X4_lay SM (60 : Int32) (0 : Int32) (ji v / (2 : Int32)) (ji N) (jl w) = some SM2 ∧ scC SC SC2 ∧ scM SM SM2 ∧ bth p K SC2 SM2 126 60 0 (v.tdiv 2) N w 0 1 := by
        intro N w hN w1 w2 w3
        obtain ⟨S1, f1, a1, a2, a3, a4, a5, a6, a7⟩ := cs_set (S := SC) (r := 126) (by decide) 0 (ji v / (2 : Int32)) (ji N) (jl w)
        obtain ⟨S2, f2, d1, d2, d3, d4, d5, d6, d7⟩ := ms_lay (S := SM) (c := 60) (by omega) 0 (ji v / (2 : Int32)) (ji N) (jl w)
        have ev : ji v / (2 : Int32) = ji (v.tdiv 2) := by rw [show (2 : Int32) = ji 2 from rfl]; exact ji_tdiv r2 (by decide) (by omega)
        have bt : -30 ≤ v.tdiv 2 ∧ v.tdiv 2 ≤ 30 := tdiv2_bd bv1 bv2
        exact ⟨S1, S2, f1, f2, a7.sc (by omega), d7.sc (by omega), ⟨a1, by rw [a2, ev], a3, a4, fun qq => by omega⟩, ⟨d1, by rw [d2, ev], d3, d4, fun qq => by omega⟩, ⟨by omega, by omega, by omega, by omega, hN, w1, w2, fun qq => by omega, fun _ qq => w3 qq⟩⟩
      have bt : -30 ≤ v.tdiv 2 ∧ v.tdiv 2 ≤ 30 := tdiv2_bd bv1 bv2
      by_cases p2 : p = 2
      · subst p2
        have e22 : ji 2 = 2 := rfl
        simp only [if_pos e22]
        unfold m_X3_squareOfTwo m_X4_square_72
        rw [if_pos hrx, B.1.2.2.1, B.1.2.2.2.1, B.2.1.2.2.1, h3.1, if_neg (show ¬ (1 : Int32) = 0 by decide), if_pos e22]
        by_cases c5 : n < 3
        · rw [if_neg (fun zz => by have := (ji_ler (a := n) (c := 3) (b := 3) r3 rfl (by decide)).mp zz; omega), if_pos ((ji_lel (a := n) (c := 2) (b := 2) r3 rfl (by decide)).mpr (by omega))]
          unfold m_X4_square_107
          rw [h3.1, if_pos e22, if_neg (fun zz => by have := (ji_ler (a := n) (c := 3) (b := 3) r3 rfl (by decide)).mp zz; omega)]
          exact ⟨_, _, _, rfl, rfl, R0⟩
        · rw [if_pos ((ji_ler (a := n) (c := 3) (b := 3) r3 rfl (by decide)).mpr (by omega)), if_neg (show ¬ ji (n : Int) ≤ 2 from fun zz => by have := (ji_lel (a := n) (c := 2) (b := 2) r3 rfl (by decide)).mp zz; omega), if_neg (oobc hi64), natc hi64, B.2.1.2.2.2.1]
          by_cases c6 : rm64 (jl u) 8 = 1
          · simp only [if_pos c6]
            have c7 : u % 8 = 1 := by
              rw [show (8 : Int64) = jl 8 from rfl, jl_mod r4 u0 (by decide)] at c6
              exact (jl_eql (c := 1) (b := 1) ⟨by omega, by omega⟩ rfl (by decide)).mp c6
            unfold m_X4_square_107
            rw [h3.1, if_pos e22, if_pos ((ji_ler (a := n) (c := 3) (b := 3) r3 rfl (by decide)).mpr (by omega))]
            obtain ⟨w, w1, w2, w3, w4, w5⟩ := two_loop h1 h2 h3 hnK B.1.2.2.1 B.1.2.2.2.1 u0 r4 (n - 3) fu 3 1 (by omega) (by omega) (by rw [fu_v]; omega) (by omega) (by decide) (by decide) ⟨-(u / 8), by rw [show (2 : Int) ^ 3 = 8 from by decide]; omega⟩
            rw [show ji ((3 : Nat) : Int) = 3 from rfl, show jl 1 = 1 from rfl] at w4 w5
            rw [w4]
            unfold m_X3_squareOfTwo_73 m_X4_square_123 m_X4_rootTwo
            have en : ji (n : Int) - 1 = ji (n - 1 : Nat) := by rw [show (1 : Int32) = ji 1 from rfl, ji_sub]; congr 1; omega
            simp only [if_neg (oobc hi64), natc hi64]
            rw [B.1.2.1, B.1.2.2.1, h3.1, h6, if_pos e22, B.2.1.2.1, B.2.1.2.2.2.1, w5, ho_s, en]
            obtain ⟨SC2, SM2, g1, g2, g3, g4, g5⟩ := fin (n - 1) w (by omega) w1 w2 (fun _ zz => by omega)
            rw [g1, ho_s]
            by_cases c4 : m = 60
            · rw [if_pos (by rw [c4]; rfl), kp_full (R.sc g3 scM.rf) c4 (by decide)]
              exact ⟨_, _, _, rfl, rfl, _, K, m, z, R.sc g3 scM.rf⟩
            · rw [if_neg (fun q => c4 (by have := (ji_eql (a := m) (c := 60) (b := 60) ⟨by omega, by omega⟩ rfl (by decide)).mp q; omega)), g2, ho_s]
              obtain ⟨rr, SC3, SM3, y1, y2, y3⟩ := kp_all R g3 g4 c4 g5 ⟨by omega, by omega⟩ (by omega)
              unfold m_X4_square_203
              rw [y1, y2]
              exact ⟨_, _, _, rfl, rfl, y3⟩
          · simp only [if_neg c6]
            exact ⟨_, _, _, rfl, rfl, R0⟩
      · have e22 : ¬ ji p = 2 := fun zz => p2 ((ji_eql (c := 2) (b := 2) ⟨by omega, by omega⟩ rfl (by decide)).mp zz)
        simp only [if_neg e22]
        obtain ⟨f, f1, f2, f3, f4, f5⟩ := first_both h1 h2 h3 u0 r4 fu 1 (by omega) (by omega) (by rw [fu_v]; omega)
        unfold m_X3_squareOfOdd m_X1_firstSquareRoot m_X4_firstRoot m_X4_square_72
        rw [if_pos hrx, B.1.2.2.1, B.1.2.2.2.1, B.2.1.2.2.1, B.2.1.2.2.2.1, h3.1, cf_lowest h1 h2 r4 (by omega), ho_s, show (1 : Int32) = ji 1 from rfl, f1, f2, ho_s, ho_s]
        by_cases c5 : f = 0
        · have c5' : ji f = 0 := by rw [c5]; rfl
          simp only [if_pos c5']
          exact ⟨_, _, _, rfl, rfl, R0⟩
        · have c5' := ji_ne0 (b := f) ⟨by omega, by omega⟩ c5
          simp only [if_neg c5', if_neg e22]
          have hle := pw_le hp.1 n1
          rw [pw1] at hle
          have hfd : ¬ p ∣ f := fun zz => by have := Int.le_of_dvd (by omega) zz; omega
          rw [ji_l ⟨by omega, by omega⟩]
          obtain ⟨y, y1, y2, y3, y4, y5⟩ := odd_newt h1 p2 h2 hnK n1 B.1.2.2.2.1 u0 u1 hfd fu 1 f (by omega) (by omega) (by rw [fu_v]; omega) (by rw [fu_v]; omega) f3 (by omega) (by rw [show min 1 n = 1 by omega, pw1]; exact f5 c5) ⟨0, by omega⟩
          rw [show ji ((1 : Nat) : Int) = ji 1 from rfl] at y1
          rw [y1]
          have hyd := ndv y5 hfd
          unfold m_X3_squareOfOdd_128 m_X4_square_107 m_X4_square_123 m_X4_rootOdd
          simp only [if_neg (oobc hi64), natc hi64]
          have ef : y % p ^ 1 = f := by
            rw [pw1]
            have := em_lt (a := y) (show 0 < p by omega)
            refine eq_of_dv this.1 this.2 f3 f4 ?_
            have := Int.dvd_add (dv_mod (a := y) (m := p)) y5
            rwa [show y % p - y + (y - f) = y % p - f by omega] at this
          have hr := odd_ref h1 p2 h3 hnK u0 r4 y4 hyd y2 y3 (n - 1) fu 1 (by omega) (by omega) (by rw [fu_v]; omega)
          rw [ef, show ji ((1 : Nat) : Int) = 1 from rfl] at hr
          rw [B.1.2.1, h3.1, h6, if_neg e22, if_neg e22, B.2.1.2.1, B.2.1.2.2.2.1, ji_l ⟨by omega, by omega⟩, hr, ho_s]
          obtain ⟨SC2, SM2, g1, g2, g3, g4, g5⟩ := fin n y hnK y2 y3 (fun _ => hyd)
          rw [g1, ho_s]
          by_cases c4 : m = 60
          · rw [if_pos (by rw [c4]; rfl), kp_full (R.sc g3 scM.rf) c4 (by decide)]
            exact ⟨_, _, _, rfl, rfl, _, K, m, z, R.sc g3 scM.rf⟩
          · rw [if_neg (fun q => c4 (by have := (ji_eql (a := m) (c := 60) (b := 60) ⟨by omega, by omega⟩ rfl (by decide)).mp q; omega)), g2, ho_s]
            obtain ⟨rr, SC3, SM3, y1, y2, y3⟩ := kp_all R g3 g4 c4 g5 ⟨by omega, by omega⟩ (by omega)
            unfold m_X4_square_203
            rw [y1, y2]
            exact ⟨_, _, _, rfl, rfl, y3⟩
    · simp only [if_neg c3]
      exact ⟨_, _, _, rfl, rfl, R0⟩
end
