/-! the reference's numbers -/
def fm (S : St) (p : Int) (K : Nat) : Prop := S.1 0 0 = ji p ∧ S.1 0 1 = ji K ∧ ∀ j : Nat, j ≤ K → S.2 1 j = jl (p ^ j)
theorem mf_in {a b c : Int} (ha : rl a) (hb : rl b) (hc : rl c) : m_X4_in (jl a) (jl b) (jl c) = some (if b ≤ a ∧ a ≤ c then 1 else 0) := by
  unfold m_X4_in
  by_cases h1 : a < b
  · rw [if_pos ((jl_lt ha hb).mpr h1), if_neg (by omega)]
  · rw [if_neg (fun q => h1 ((jl_lt ha hb).mp q))]
    by_cases h2 : c < a
    · rw [if_pos ((jl_lt hc ha).mpr h2), if_neg (by omega)]
    · rw [if_neg (fun q => h2 ((jl_lt hc ha).mp q)), if_pos (by omega)]
theorem mf_into {a m : Int} (ha : rl a) (hn : a ≠ -9223372036854775808) (hm : rl m) (h0 : 0 < m) : m_X4_into (jl a) (jl m) = some (jl (a % m)) := by
  unfold m_X4_into
  rw [if_neg (jl_ne0 hm (by omega)), jl_tmod ha hm hn]
  have e : a.tmod m = a % m - ((if 0 ≤ a ∨ m ∣ a then 0 else m.natAbs : Nat) : Int) := Int.tmod_eq_emod
  have r1 := em_lt (a := a) h0
  by_cases h : 0 ≤ a ∨ m ∣ a
  · rw [if_pos h] at e
    rw [if_pos ((jl_ler (a := a.tmod m) (c := 0) (b := 0) ⟨by omega, by omega⟩ rfl (by decide)).mpr (by omega))]
    congr 2
    omega
  · rw [if_neg h] at e
    have e0 : a % m ≠ 0 := fun q => h (Or.inr (Int.dvd_of_emod_eq_zero q))
    rw [if_neg (fun q => by have := (jl_ler (a := a.tmod m) (c := 0) (b := 0) ⟨by omega, by omega⟩ rfl (by decide)).mp q; omega), jl_add]
    congr 2
    omega
/-! doubling and adding -/
theorem alg3 {s x y2 y m : Int} (e : y = 2 * y2 + 1) {s2 x2 k1 k2 : Int} (h1 : s + x - s2 = m * k1) (h2 : x + x - x2 = m * k2) : s + x * y - (s2 + x2 * y2) = m * (k1 + k2 * y2) := by grind
theorem alg4 {s x y2 y m : Int} (e : y = 2 * y2) {x2 k2 : Int} (h2 : x + x - x2 = m * k2) : s + x * y - (s + x2 * y2) = m * (k2 * y2) := by grind
theorem mt_loop {m : Int} (hm : 0 < m) (hm2 : m ≤ 1000000000000000000) : ∀ (k n : Nat) (x y s : Int), k < n → 0 ≤ y → y < 2 ^ k → rl y → 0 ≤ x → x < m → 0 ≤ s → s < m → m_X4_times_9 n (jl m) (jl x) (jl y) (jl s) = some (jl ((s + x * y) % m)) := by
  intro k
  induction k with
  | zero =>
    intro n x y s hn hy hy2 hr hx hx2 hs hs2
    obtain ⟨n, rfl⟩ : ∃ k, n = k + 1 := ⟨n - 1, by omega⟩
    have e : y = 0 := by simp at hy2; omega
    subst e
    unfold m_X4_times_9 m_X4_times_96
    rw [if_pos (by decide), Int.mul_zero, Int.add_zero, Int.emod_eq_of_lt hs hs2]
    by_cases c : m = 1
    · rw [if_pos (by rw [c]; rfl), show s = 0 by omega]; rfl
    · rw [if_neg (fun q => c ((jl_eql (c := 1) (b := 1) ⟨by omega, by omega⟩ rfl (by decide)).mp q))]
  | succ k ih =>
    intro n x y s hn hy hy2 hr hx hx2 hs hs2
    obtain ⟨n, rfl⟩ : ∃ k, n = k + 1 := ⟨n - 1, by omega⟩
    by_cases c0 : y = 0
    · subst c0
      unfold m_X4_times_9 m_X4_times_96
      rw [if_pos (by decide), Int.mul_zero, Int.add_zero, Int.emod_eq_of_lt hs hs2]
      by_cases c : m = 1
      · rw [if_pos (by rw [c]; rfl), show s = 0 by omega]; rfl
      · rw [if_neg (fun q => c ((jl_eql (c := 1) (b := 1) ⟨by omega, by omega⟩ rfl (by decide)).mp q))]
    · have hk : y / 2 < 2 ^ k := by rw [pw_s] at hy2; omega
      have main : ∀ s2 : Int, 0 ≤ s2 → s2 < m → m ∣ s + x * y - (s2 + (x + x) * (y / 2)) → m_X4_times_56 (fun x4 x6 x8 x10 => m_X4_times_9 n x4 x6 x8 x10) (jl m) (jl x) (jl y) (jl s2) = some (jl ((s + x * y) % m)) := by
        intro s2 h1 h2 h3
        unfold m_X4_times_56 m_X4_times_83
        dsimp only
        rw [jl_add]
        by_cases c : x + x < m
        · rw [if_pos ((jl_lt ⟨by omega, by omega⟩ ⟨by omega, by omega⟩).mpr c), show (2 : Int64) = jl 2 from rfl, jl_div hr hy (by decide), ih n (x + x) (y / 2) s2 (by omega) (by omega) hk ⟨by omega, by omega⟩ (by omega) c h1 h2, emod_of_dv h3]
        · rw [if_neg (fun q => c ((jl_lt ⟨by omega, by omega⟩ ⟨by omega, by omega⟩).mp q)), show (2 : Int64) = jl 2 from rfl, jl_div hr hy (by decide), jl_sub, ih n (x + x - m) (y / 2) s2 (by omega) (by omega) hk ⟨by omega, by omega⟩ (by omega) (by omega) h1 h2]
          congr 2
          obtain ⟨t, ht⟩ := h3
          exact (emod_of_dv ⟨t + y / 2, by rw [Int.mul_add, ← ht, Int.sub_mul]; omega⟩).symm
      unfold m_X4_times_9
      rw [if_neg (fun q => c0 (by have := (jl_lel (c := 0) (b := 0) hr rfl (by decide)).mp q; omega)), show (2 : Int64) = jl 2 from rfl, jl_mod hr hy (by decide)]
      by_cases c1 : y % 2 = 1
      · rw [if_pos (by rw [c1]; rfl), jl_add]
        unfold m_X4_times_54
        have e : y = 2 * (y / 2) + 1 := by omega
        by_cases c : s + x < m
        · rw [if_pos ((jl_lt ⟨by omega, by omega⟩ ⟨by omega, by omega⟩).mpr c)]
          exact main (s + x) (by omega) c ⟨_, alg3 (k1 := 0) (k2 := 0) e (by omega) (by omega)⟩
        · rw [if_neg (fun q => c ((jl_lt ⟨by omega, by omega⟩ ⟨by omega, by omega⟩).mp q)), jl_sub]
          exact main (s + x - m) (by omega) (by omega) ⟨_, alg3 (k1 := 1) (k2 := 0) e (by omega) (by omega)⟩
      · rw [if_neg (fun q => c1 ((jl_eql (c := 1) (b := 1) ⟨by omega, by omega⟩ rfl (by decide)).mp q))]
        have e : y = 2 * (y / 2) := by omega
        exact main s hs hs2 ⟨_, alg4 (k2 := 0) e (by omega)⟩
theorem mf_times {a b m : Int} (hm : 0 < m) (hm2 : m ≤ 1000000000000000000) (ha : 0 ≤ a) (ha2 : a < m) (hb : 0 ≤ b) (hb2 : rl b) : m_X4_times (jl a) (jl b) (jl m) = some (jl (a * b % m)) := by
  unfold m_X4_times
  have e63 : (2 : Int) ^ 63 = 9223372036854775808 := by decide
  have := mt_loop hm hm2 63 fu a b 0 (by rw [fu_v]; omega) hb (by omega) hb2 ha ha2 (by omega) hm
  rw [Int.zero_add] at this
  exact this
theorem mf_ra_loop {a m : Int} (hm : 0 < m) (hm2 : m ≤ 1000000000000000000) (ha : 0 ≤ a) (ha2 : a < m) {N : Int} (hN : 0 ≤ N) (hN2 : N ≤ 64) : ∀ (k n : Nat) (x : Int), k < n → (k : Int) ≤ N → 0 ≤ x → x < m → m_X4_raised_8 n (jl a) (ji N) (jl m) (jl x) (ji (N - k)) = some (jl (x * a ^ k % m)) := by
  intro k
  induction k with
  | zero =>
    intro n x hk hk2 hx hx2
    obtain ⟨n, rfl⟩ : ∃ k, n = k + 1 := ⟨n - 1, by omega⟩
    unfold m_X4_raised_8
    rw [if_pos ((ji_le ⟨by omega, by omega⟩ ⟨by omega, by omega⟩).mpr (by omega)), Int.pow_zero, Int.mul_one, Int.emod_eq_of_lt hx hx2]
  | succ k ih =>
    intro n x hk hk2 hx hx2
    obtain ⟨n, rfl⟩ : ∃ k, n = k + 1 := ⟨n - 1, by omega⟩
    unfold m_X4_raised_8
    rw [if_neg (fun q => by have := (ji_le (a := N) (b := N - (k + 1 : Nat)) ⟨by omega, by omega⟩ ⟨by omega, by omega⟩).mp q; omega), mf_times hm hm2 hx hx2 ha ⟨by omega, by omega⟩, ho_s, show (1 : Int32) = ji 1 from rfl, ji_add, show N - (k + 1 : Nat) + 1 = N - k by omega]
    have r1 := em_lt (a := x * a) hm
    rw [ih n (x * a % m) (by omega) (by omega) r1.1 r1.2]
    congr 2
    rw [Int.mul_emod, Int.emod_emod_of_dvd _ (Int.dvd_refl _), ← Int.mul_emod, Int.pow_succ, Int.mul_assoc, Int.mul_comm a]
theorem mf_raised {a m : Int} (hm : 1 < m) (hm2 : m ≤ 1000000000000000000) (ha : 0 ≤ a) (ha2 : a < m) {N : Nat} (hN2 : N ≤ 64) : m_X4_raised (jl a) (ji N) (jl m) = some (jl (a ^ N % m)) := by
  unfold m_X4_raised
  have := mf_ra_loop (by omega) hm2 ha ha2 (N := N) (by omega) (by omega) N fu 1 (by rw [fu_v]; omega) (by omega) (by omega) (by omega)
  rw [Int.sub_self, Int.one_mul] at this
  rw [if_neg (jl_ne0 ⟨by omega, by omega⟩ (by omega)), show (1 : Int64) = jl 1 from rfl, jl_mod (by decide) (by decide) ⟨by omega, by omega⟩, Int.emod_eq_of_lt (by omega) hm]
  exact this
section
variable {S : St} {p : Int} {K : Nat}
theorem mf_p (h : pk p K) (hS : fm S p K) : (S.1 0 0).toInt64 = jl p := by
  have h1 := pk_p h
  rw [hS.1, ji_l ⟨by omega, by omega⟩]
theorem mf_oob (h : pk p K) {n : Nat} (hn : n ≤ K) : ¬ oob (ji n) 64 := by
  have hK := pk_K h
  rw [ji_oob ⟨by omega, by omega⟩]; omega
theorem mf_pw (h : pk p K) (hS : fm S p K) {n : Nat} (hn : n ≤ K) : S.2 1 (ji n).toNatClampNeg = jl (p ^ n) := by
  have hK := pk_K h
  rw [ji_nat ⟨by omega, by omega⟩, show ((n : Int)).toNat = n by omega, hS.2.2 n hn]
theorem mf_inv_loop (h : pk p K) {a : Int} {N : Nat} (hN : N ≤ K) (ha : 0 ≤ a) (ha2 : rl a) : ∀ (n s : Nat) (x : Int), 1 ≤ s → s ≤ 128 → (N : Int) - s < n → 0 < n → 0 ≤ x → x < p ^ N → p ^ (min s N) ∣ a * x - 1 → ∃ y, m_X4_inverse_50 S n (jl a) (ji N) (jl (p ^ N)) (jl x) (ji s) = some (jl y) ∧ 0 ≤ y ∧ y < p ^ N ∧ p ^ N ∣ a * y - 1 := by
  have hp := pk_p h
  have hK := pk_K h
  have q5 := pw_K h hN
  intro n
  induction n with
  | zero => intro s x _ _ _ hn; omega
  | succ n ih =>
    intro s x hs hs2 hn _ hx hx2 hd
    unfold m_X4_inverse_50
    by_cases c1 : N ≤ s
    · rw [if_pos ((ji_le ⟨by omega, by omega⟩ ⟨by omega, by omega⟩).mpr (by omega))]
      refine ⟨x, rfl, hx, hx2, ?_⟩
      rwa [show min s N = N by omega] at hd
    · have r0 := em_lt (a := a) q5.1
      rw [if_neg (fun q => c1 (by have := (ji_le (a := N) (b := s) ⟨by omega, by omega⟩ ⟨by omega, by omega⟩).mp q; omega)), if_neg (jl_ne0 ⟨by omega, by omega⟩ (by omega)), jl_mod ha2 ha ⟨by omega, by omega⟩, mf_times q5.1 q5.2 r0.1 r0.2 hx ⟨by omega, by omega⟩, ho_s]
      have r1 := em_lt (a := a % p ^ N * x) q5.1
      rw [show (2 : Int64) = jl 2 from rfl, jl_sub, mf_into ⟨by omega, by omega⟩ (by omega) ⟨by omega, by omega⟩ q5.1, ho_s]
      have r2 := em_lt (a := 2 - a % p ^ N * x % p ^ N) q5.1
      rw [mf_times q5.1 q5.2 hx hx2 r2.1 ⟨by omega, by omega⟩, ho_s, show (2 : Int32) = ji 2 from rfl, ji_mul, show ((s : Int) * 2) = ((s * 2 : Nat) : Int) by omega]
      have r3 := em_lt (a := x * ((2 - a % p ^ N * x % p ^ N) % p ^ N)) q5.1
      refine ih (s * 2) _ (by omega) (by omega) (by omega) (by omega) r3.1 r3.2 ?_
      refine inv_step (m := p ^ N) hd (pw_min p) (pw_dvd p (by omega)) ?_
      obtain ⟨k1, e1⟩ := dv_mod (a := x * ((2 - a % p ^ N * x % p ^ N) % p ^ N)) (m := p ^ N)
      obtain ⟨k2, e2⟩ := dv_mod (a := 2 - a % p ^ N * x % p ^ N) (m := p ^ N)
      obtain ⟨k3, e3⟩ := dv_mod (a := a % p ^ N * x) (m := p ^ N)
      obtain ⟨k4, e4⟩ := dv_mod (a := a) (m := p ^ N)
      have e5 : a % p ^ N * x % p ^ N - a * x = p ^ N * (k3 + k4 * x) := by
        rw [Int.mul_add, ← e3, ← Int.mul_assoc, ← e4, Int.sub_mul]; omega
      exact ⟨_, alg1 e1 e2 e5⟩
theorem mf_in_loop (h : pk p K) (hS : fm S p K) {a : Int} {N : Nat} (hN : N ≤ K) (hN1 : 1 ≤ N) (ha : 0 ≤ a) (ha2 : rl a) : ∀ (n : Nat) (i : Int), 1 ≤ i → (∃ j, i ≤ j ∧ j < p ∧ (a * j) % p = 1) → p - i < n → ∃ y, m_X4_inverse_17 S n (jl a) (ji N) (jl (p ^ N)) (jl i) = some (jl y) ∧ 0 ≤ y ∧ y < p ^ N ∧ p ^ N ∣ a * y - 1 := by
  have hp := pk_p h
  have q5 := pw_K h hN
  intro n
  induction n with
  | zero => intro i h1 ⟨j, h2, h3, h4⟩ h5; omega
  | succ n ih =>
    intro i h1 ⟨j, h2, h3, h4⟩ h5
    unfold m_X4_inverse_17
    have r0 := em_lt (a := a) (show 0 < p by omega)
    have m1 := sq_bd (show 0 ≤ i by omega) (show i < 32 by omega) r0.1 (show a % p < 32 by omega)
    have m2 := em_lt (a := i * (a % p)) (show 0 < p by omega)
    rw [mf_p h hS, if_neg (jl_ne0 ⟨by omega, by omega⟩ (by omega)), if_neg (jl_ne0 ⟨by omega, by omega⟩ (by omega)), jl_mod ha2 ha ⟨by omega, by omega⟩, jl_mul, jl_mod ⟨by omega, by omega⟩ m1.1 ⟨by omega, by omega⟩]
    have e0 : i * (a % p) % p = a * i % p := by
      rw [Int.mul_comm i, Int.mul_emod, Int.emod_emod_of_dvd _ (Int.dvd_refl p), ← Int.mul_emod]
    by_cases c : i * (a % p) % p = 1
    · rw [if_pos (by rw [c]; rfl)]
      unfold m_X4_inverse_47
      have hle := pw_le hp.1 hN1
      rw [pw1] at hle
      refine mf_inv_loop h hN ha ha2 fu 1 i (by omega) (by omega) (by rw [fu_v]; have := pk_K h; omega) (by rw [fu_v]; omega) (by omega) (by omega) ?_
      rw [show min 1 N = 1 by omega, pw1]
      exact Int.dvd_of_emod_eq_zero (by rw [Int.sub_emod, ← e0, c, Int.emod_eq_of_lt (by omega) (show (1 : Int) < p by omega)]; rfl)
    · rw [if_neg (fun q => c ((jl_eql (c := 1) (b := 1) ⟨by omega, by omega⟩ rfl (by decide)).mp q)), show (1 : Int64) = jl 1 from rfl, jl_add]
      refine ih (i + 1) (by omega) ⟨j, ?_, h3, h4⟩ (by omega)
      by_cases q : j = i
      · rw [q] at h4; rw [e0] at c; exact absurd h4 c
      · omega
theorem mf_inverse (h : pk p K) (hS : fm S p K) {a : Int} {N : Nat} (hN : N ≤ K) (hN1 : 1 ≤ N) (ha : 0 ≤ a) (ha2 : rl a) (hd : ¬ p ∣ a) : ∃ y, m_X4_inverse S (jl a) (ji N) = some (jl y) ∧ 0 ≤ y ∧ y < p ^ N ∧ p ^ N ∣ a * y - 1 := by
  have hp := pk_p h
  have hK := pk_K h
  have r1 := em_lt (a := a) (show 0 < p by omega)
  have r2 : a % p ≠ 0 := fun q => hd (Int.dvd_of_emod_eq_zero q)
  obtain ⟨j, a1, a2, a3⟩ := pk_inv h (show 0 < a % p by omega) r1.2
  rw [Int.mul_emod, Int.emod_emod_of_dvd _ (Int.dvd_refl p), ← Int.mul_emod] at a3
  unfold m_X4_inverse
  rw [if_neg (mf_oob h hN), if_neg (ji_ne0 ⟨by omega, by omega⟩ (by omega)), mf_pw h hS hN]
  exact mf_in_loop h hS hN hN1 ha ha2 fu 1 (by omega) ⟨j, a1, a2, a3⟩ (by rw [fu_v]; omega)
theorem mf_inverse0 (h : pk p K) {a : Int64} : m_X4_inverse S a (ji 0) = some (jl 0) := by
  unfold m_X4_inverse
  rw [if_neg (by decide), if_pos (by decide)]
  rfl
/-! how often, and what is left -/
theorem mf_wo_loop (h : pk p K) (hS : fm S p K) {u : Int} (hu : ¬ p ∣ u) : ∀ (v n : Nat), v < n → rl (p ^ v * u) → p ^ v * u ≠ -9223372036854775808 → m_X4_without_2 S n (jl (p ^ v * u)) = some (jl u) := by
  have hp := pk_p h
  intro v
  induction v with
  | zero =>
    intro n hn hr hm
    obtain ⟨n, rfl⟩ : ∃ k, n = k + 1 := ⟨n - 1, by omega⟩
    rw [Int.pow_zero, Int.one_mul] at *
    unfold m_X4_without_2
    rw [mf_p h hS, if_neg (jl_ne0 ⟨by omega, by omega⟩ (by omega)), jl_tmod hr ⟨by omega, by omega⟩ hm, if_neg]
    intro q
    have h1 : rl (u.tmod p) := by
      have := Int.natAbs_tmod u p
      have h3 := Nat.mod_lt u.natAbs (show 0 < p.natAbs by omega)
      exact ⟨by omega, by omega⟩
    exact hu (Int.dvd_of_tmod_eq_zero ((jl_eq h1 (by decide)).mp q))
  | succ v ih =>
    intro n hn hr hm
    obtain ⟨n, rfl⟩ : ∃ k, n = k + 1 := ⟨n - 1, by omega⟩
    have hd := cf_down hp (v := v) (u := u)
    have hb := rl_abs hr (u := p ^ v * u) (by rw [← hd.2, Int.natAbs_tdiv]; exact Nat.div_le_self _ _) hm
    unfold m_X4_without_2
    rw [mf_p h hS, if_neg (jl_ne0 ⟨by omega, by omega⟩ (by omega)), jl_tmod hr ⟨by omega, by omega⟩ hm, hd.1, if_pos jl00, if_neg (jl_ne0 ⟨by omega, by omega⟩ (by omega)), jl_tdiv hr ⟨by omega, by omega⟩ hm, hd.2]
    exact ih n (by omega) hb.1 hb.2
theorem mf_of_loop (h : pk p K) (hS : fm S p K) {u : Int} (hu : ¬ p ∣ u) : ∀ (v n : Nat) (i : Int), v < n → rl (p ^ v * u) → p ^ v * u ≠ -9223372036854775808 → m_X4_often_5 S n (ji i) (jl (p ^ v * u)) = some (ji (i + v)) := by
  have hp := pk_p h
  intro v
  induction v with
  | zero =>
    intro n i hn hr hm
    obtain ⟨n, rfl⟩ : ∃ k, n = k + 1 := ⟨n - 1, by omega⟩
    rw [Int.pow_zero, Int.one_mul] at *
    unfold m_X4_often_5
    rw [mf_p h hS, if_neg (jl_ne0 ⟨by omega, by omega⟩ (by omega)), jl_tmod hr ⟨by omega, by omega⟩ hm, if_neg]
    · simp
    intro q
    have h1 : rl (u.tmod p) := by
      have := Int.natAbs_tmod u p
      have h3 := Nat.mod_lt u.natAbs (show 0 < p.natAbs by omega)
      exact ⟨by omega, by omega⟩
    exact hu (Int.dvd_of_tmod_eq_zero ((jl_eq h1 (by decide)).mp q))
  | succ v ih =>
    intro n i hn hr hm
    obtain ⟨n, rfl⟩ : ∃ k, n = k + 1 := ⟨n - 1, by omega⟩
    have hd := cf_down hp (v := v) (u := u)
    have hb := rl_abs hr (u := p ^ v * u) (by rw [← hd.2, Int.natAbs_tdiv]; exact Nat.div_le_self _ _) hm
    unfold m_X4_often_5
    rw [mf_p h hS, if_neg (jl_ne0 ⟨by omega, by omega⟩ (by omega)), jl_tmod hr ⟨by omega, by omega⟩ hm, hd.1, if_pos jl00, if_neg (jl_ne0 ⟨by omega, by omega⟩ (by omega)), jl_tdiv hr ⟨by omega, by omega⟩ hm, hd.2, show (1 : Int32) = ji 1 from rfl, ji_add, ih n (i + 1) (by omega) hb.1 hb.2]
    congr 2
    omega
theorem mf_strip (h : pk p K) (hS : fm S p K) {v : Nat} {a u : Int} (ha : rl a) (hm : a ≠ -9223372036854775808) (e : a = p ^ v * u) (hu : ¬ p ∣ u) : m_X4_without S (jl a) = some (jl u) ∧ m_X4_often S (jl a) = some (ji v) := by
  have hp := pk_p h
  have hu0 : u ≠ 0 := fun q => hu (by rw [q]; exact Int.dvd_zero _)
  have hv := pv_63 hp.1 ha (pv_bd hp.1 e hu0).1
  subst e
  unfold m_X4_without m_X4_often
  refine ⟨mf_wo_loop h hS hu v fu (by rw [fu_v]; omega) ha hm, ?_⟩
  have := mf_of_loop h hS hu v fu 0 (by rw [fu_v]; omega) ha hm
  rw [show (0 : Int32) = ji 0 from rfl, this]
  congr 2
  omega
end
section
variable {S : St} {p : Int} {K : Nat}
/-! values of a row of eight ints from o on -/
theorem alg5 {y t v x m k1 k2 k3 c d : Int} (e1 : y - t * x = m * k1) (e2 : t - v = m * k2) (e3 : d - c = m * k3) : y - m + d - (v * x + c) = m * (k1 + k2 * x + k3 - 1) := by grind
theorem mf_va_loop {r o : Nat} {c : Nat → Int} (hc : cf8 (fun k => S.1 r (o + k)) c) (ho : o + 8 ≤ lm r) (ho2 : lm r ≤ 2001) {x m : Int} (hm : 0 < m) (hm2 : m ≤ 1000000000000000000) (hx : 0 ≤ x) (hx2 : rl x) : ∀ (k n : Nat) (v : Int), k < n → k ≤ 8 → m_X4_valueAt_7 S n r (ji o) (jl x) (jl m) (jl (v % m)) (ji ((k : Int) - 1)) = some (jl (hz c x k v % m)) := by
  intro k
  induction k with
  | zero =>
    intro n v hk hk2
    obtain ⟨n, rfl⟩ : ∃ k, n = k + 1 := ⟨n - 1, by omega⟩
    unfold m_X4_valueAt_7
    rw [if_pos (by decide)]
    rfl
  | succ k ih =>
    intro n v hk hk2
    obtain ⟨n, rfl⟩ : ∃ k, n = k + 1 := ⟨n - 1, by omega⟩
    have r1 := em_lt (a := v) hm
    have r2 := em_lt (a := v % m * x) hm
    obtain ⟨c1, c2, c3⟩ := hc k (by omega)
    have c1 : S.1 r (o + k) = ji (c k) := c1
    have r3 := em_lt (a := c k) hm
    unfold m_X4_valueAt_7
    rw [show (((k + 1 : Nat) : Int) - 1) = (k : Int) by omega, if_neg (fun q => by have := (ji_ltl (a := k) (c := 0) (b := 0) ⟨by omega, by omega⟩ rfl (by decide)).mp q; omega), mf_times hm hm2 r1.1 r1.2 hx hx2, ho_s, ji_add, if_neg (by rw [ji_oob ⟨by omega, by omega⟩]; omega), ji_nat ⟨by omega, by omega⟩, show ((o : Int) + k).toNat = o + k by omega, c1, ji_l ⟨by omega, by omega⟩, mf_into ⟨by omega, by omega⟩ (by omega) ⟨by omega, by omega⟩ hm, ho_s, jl_sub, jl_add, mf_into ⟨by omega, by omega⟩ (by omega) ⟨by omega, by omega⟩ hm, ho_s, show (-1 : Int32) = ji (-1) from rfl, ji_add, show (k : Int) + -1 = k - 1 by omega]
    rw [show (v % m * x % m - m + c k % m) % m = (v * x + c k) % m from emod_of_dv (by
      obtain ⟨k1, e1⟩ := dv_mod (a := v % m * x) (m := m)
      obtain ⟨k2, e2⟩ := dv_mod (a := v) (m := m)
      obtain ⟨k3, e3⟩ := dv_mod (a := c k) (m := m)
      exact ⟨_, alg5 e1 e2 e3⟩)]
    exact ih n (v * x + c k) (by omega) (by omega)
theorem mf_valueAt {r o : Nat} (hr : km r = 5) {c : Nat → Int} (hc : cf8 (fun k => S.1 r (o + k)) c) (ho : o + 8 ≤ lm r) (ho2 : lm r ≤ 2001) {x m : Int} (hm : 0 < m) (hm2 : m ≤ 1000000000000000000) (hx : 0 ≤ x) (hx2 : rl x) : m_X4_valueAt S r (ji o) (jl x) (jl m) = some (jl (hz c x 8 0 % m)) := by
  unfold m_X4_valueAt
  have := mf_va_loop hc ho ho2 hm hm2 hx hx2 8 fu 0 (by rw [fu_v]; omega) (by omega)
  rw [Int.zero_emod] at this
  rw [if_pos hr]
  exact this
theorem alg6 {t v x m k1 c y k2 : Int} (e1 : t - v = m * k1) (e2 : y - (t * x + c) = m * k2) : y - (v * x + c) = m * (k2 + k1 * x) := by grind
/-- is f a first figure, good or stuck -/
theorem mf_first_loop (h : pk p K) (hS : fm S p K) {c : Nat → Int} (hc : cf8 (S.1 10) c) {x : Int} (hx : 0 ≤ x) (hx2 : x < p) {b : Int32} : ∀ (k n : Nat) (v : Int), k < n → k ≤ 7 → m_X4_isFirst_6 S n (ji x) b (jl (v % p)) (ji (k : Int)) = m_X4_isFirst_43 S (ji x) b (jl (hz (sl c) x k v % p)) := by
  have hp := pk_p h
  intro k
  induction k with
  | zero =>
    intro n v hk hk2
    obtain ⟨n, rfl⟩ : ∃ k, n = k + 1 := ⟨n - 1, by omega⟩
    unfold m_X4_isFirst_6
    rw [if_pos (by decide)]
    rfl
  | succ k ih =>
    intro n v hk hk2
    obtain ⟨n, rfl⟩ : ∃ k, n = k + 1 := ⟨n - 1, by omega⟩
    have r1 := em_lt (a := v) (show 0 < p by omega)
    obtain ⟨c1, c2, c3⟩ := hc (k + 1) (by omega)
    have b1 : (((k + 1 : Nat) : Int)) * c (k + 1) ≤ 8000000 ∧ -8000000 ≤ (((k + 1 : Nat) : Int)) * c (k + 1) := by
      have : k = 0 ∨ k = 1 ∨ k = 2 ∨ k = 3 ∨ k = 4 ∨ k = 5 ∨ k = 6 := by omega
      rcases this with rfl | rfl | rfl | rfl | rfl | rfl | rfl <;> omega
    have m1 := sq_bd r1.1 (show v % p < 32 by omega) hx (show x < 32 by omega)
    unfold m_X4_isFirst_6
    rw [if_neg (fun q => by have := (ji_lel (a := ((k + 1 : Nat) : Int)) (c := 0) (b := 0) ⟨by omega, by omega⟩ rfl (by decide)).mp q; omega), if_neg (by rw [ji_oob ⟨by omega, by omega⟩]; omega), ji_nat ⟨by omega, by omega⟩, show (((k + 1 : Nat) : Int)).toNat = k + 1 by omega, c1, ji_l (z := x) ⟨by omega, by omega⟩, ji_l (z := ((k + 1 : Nat) : Int)) ⟨by omega, by omega⟩, ji_l (z := c (k + 1)) ⟨by omega, by omega⟩, mf_p h hS, jl_mul, jl_mul, jl_add, mf_into ⟨by omega, by omega⟩ (by omega) ⟨by omega, by omega⟩ (by omega), ho_s, show (-1 : Int32) = ji (-1) from rfl, ji_add, show ((k + 1 : Nat) : Int) + -1 = k by omega]
    rw [show (v % p * x + ((k + 1 : Nat) : Int) * c (k + 1)) % p = (v * x + sl c k) % p from emod_of_dv (by
      obtain ⟨k1, e1⟩ := dv_mod (a := v) (m := p)
      exact ⟨_, alg6 (k2 := 0) e1 (by rw [Int.mul_zero]; exact Int.sub_self _)⟩)]
    exact ih n (v * x + sl c k) (by omega) (by omega)
theorem mf_isFirst (h : pk p K) (hS : fm S p K) {c : Nat → Int} (hc : cf8 (S.1 10) c) {x : Int} (hx : 0 ≤ x) (hx2 : x < p) (b : Bool) : m_X4_isFirst S (ji x) (if b then 1 else 0) = some (if hz c x 8 0 % p = 0 ∧ ((hz (sl c) x 7 0 % p = 0) ↔ b = true) then 1 else 0) := by
  have hp := pk_p h
  unfold m_X4_isFirst
  have e := mf_first_loop h hS hc hx hx2 (b := if b then 1 else 0) 7 fu 0 (by rw [fu_v]; omega) (by omega)
  rw [Int.zero_emod] at e
  refine Eq.trans e ?_
  unfold m_X4_isFirst_43
  have hv := mf_valueAt (S := S) (r := 10) (o := 0) (by decide) (c := c) (by simpa using hc) (by decide) (by decide) (m := p) (x := x) (by omega) (by omega) hx ⟨by omega, by omega⟩
  have r1 := em_lt (a := hz c x 8 0) (show 0 < p by omega)
  have r2 := em_lt (a := hz (sl c) x 7 0) (show 0 < p by omega)
  rw [mf_p h hS, ji_l ⟨by omega, by omega⟩, show (0 : Int32) = ji (0 : Nat) from rfl, hv, ho_s]
  by_cases c1 : hz c x 8 0 % p = 0
  · rw [c1, if_pos jl00]
    by_cases c2 : hz (sl c) x 7 0 % p = 0
    · rw [c2, if_pos jl00]
      unfold m_X4_isFirst_74
      cases b <;> simp <;> decide
    · rw [if_neg (jl_ne0 ⟨by omega, by omega⟩ c2)]
      unfold m_X4_isFirst_74
      cases b <;> simp [c2] <;> decide
  · rw [if_neg (jl_ne0 ⟨by omega, by omega⟩ c1), if_neg (fun q => c1 q.1)]
end
