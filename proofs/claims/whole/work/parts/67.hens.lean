/-! roots: from figure to figure, and by Newton's steps -/
theorem alg9 {U w m t h k : Int} (e1 : U * w - 1 = m * t) (e2 : h * U = m * k) : h = m * (k * w - h * t) := by grind
theorem uc {p : Int} {K : Nat} (h : pk p K) {U x : Int} {N : Nat} (hU : ¬ p ∣ U) (hx : p ^ N ∣ x * U) : p ^ N ∣ x := by
  obtain ⟨w, t, hw⟩ := unit_inv h hU N
  obtain ⟨k, hk⟩ := hx
  exact ⟨_, alg9 hw hk⟩
/-- the slope, along with the value -/
def hd (c : Nat → Int) (x : Int) : Nat → Int → Int → Int
  | 0, _, d => d
  | k + 1, v, d => hd c x k (v * x + c k) (d * x + v)
theorem alg10 {v d e x h c : Int} : (v + h * d + h * h * e) * (x + h) + c = (v * x + c) + h * (d * x + v) + h * h * (d + e * (x + h)) := by grind
theorem taylor {c : Nat → Int} {x h : Int} : ∀ (k : Nat) (v d e : Int), ∃ E, hz c (x + h) k (v + h * d + h * h * e) = hz c x k v + h * hd c x k v d + h * h * E := by
  intro k
  induction k with
  | zero => intro v d e; exact ⟨e, rfl⟩
  | succ k ih =>
    intro v d e
    obtain ⟨E, hE⟩ := ih (v * x + c k) (d * x + v) (d + e * (x + h))
    refine ⟨E, ?_⟩
    show hz c (x + h) k ((v + h * d + h * h * e) * (x + h) + c k) = _
    rw [alg10]
    exact hE
theorem alg11 {x c0 c1 c2 c3 c4 c5 c6 c7 : Int} : (((((((0 * x + (0 * x + 0)) * x + (0 * x + c7)) * x + ((0 * x + c7) * x + c6)) * x + (((0 * x + c7) * x + c6) * x + c5)) * x + ((((0 * x + c7) * x + c6) * x + c5) * x + c4)) * x + (((((0 * x + c7) * x + c6) * x + c5) * x + c4) * x + c3)) * x + ((((((0 * x + c7) * x + c6) * x + c5) * x + c4) * x + c3) * x + c2)) * x + (((((((0 * x + c7) * x + c6) * x + c5) * x + c4) * x + c3) * x + c2) * x + c1) = ((((((0 * x + 7 * c7) * x + 6 * c6) * x + 5 * c5) * x + 4 * c4) * x + 3 * c3) * x + 2 * c2) * x + 1 * c1 := by grind
theorem hd_sl {c : Nat → Int} {x : Int} : hd c x 8 0 0 = hz (sl c) x 7 0 := by
  simp only [hd, hz, sl]
  have := alg11 (x := x) (c0 := c 0) (c1 := c 1) (c2 := c 2) (c3 := c 3) (c4 := c 4) (c5 := c 5) (c6 := c 6) (c7 := c 7)
  simpa using this
theorem tay {c : Nat → Int} (a b : Int) : ∃ E, hz c a 8 0 = hz c b 8 0 + (a - b) * (hz (sl c) b 7 0 + (a - b) * E) := by
  obtain ⟨E, hE⟩ := taylor (c := c) (x := b) (h := a - b) 8 0 0 0
  rw [hd_sl] at hE
  refine ⟨E, ?_⟩
  rw [show b + (a - b) = a by omega, show (0 : Int) + (a - b) * 0 + (a - b) * (a - b) * 0 = 0 by simp] at hE
  rw [hE, Int.mul_add, Int.mul_assoc, Int.add_assoc]
theorem hz_cong {c : Nat → Int} {a b m : Int} (hab : m ∣ a - b) : ∀ (k : Nat) (v w : Int), m ∣ v - w → m ∣ hz c a k v - hz c b k w := by
  intro k
  induction k with
  | zero => intro v w h; exact h
  | succ k ih =>
    intro v w h
    refine ih _ _ ?_
    obtain ⟨s, hs⟩ := hab
    obtain ⟨t, ht⟩ := h
    exact ⟨t * a + w * s, by grind⟩
theorem ndv {p a b : Int} (h : p ∣ a - b) (hb : ¬ p ∣ b) : ¬ p ∣ a := fun q => hb (by have := Int.dvd_sub q h; rwa [show a - (a - b) = b by omega] at this)
section
variable {p : Int} {K : Nat} {c : Nat → Int}
/-- one root only over each GOOD first figure -/
theorem hens (h : pk p K) {a b : Int} {N : Nat} (ha : p ^ N ∣ hz c a 8 0) (hb : p ^ N ∣ hz c b 8 0) (hab : p ∣ a - b) (hs : ¬ p ∣ hz (sl c) b 7 0) : p ^ N ∣ a - b := by
  obtain ⟨E, hE⟩ := tay (c := c) a b
  have hU : ¬ p ∣ hz (sl c) b 7 0 + (a - b) * E := by
    refine ndv ?_ hs
    rw [Int.add_comm, Int.add_sub_cancel]
    exact Int.dvd_trans hab (Int.dvd_mul_right _ _)
  refine uc h hU ?_
  have := Int.dvd_sub ha hb
  rw [hE] at this
  rwa [show hz c b 8 0 + (a - b) * (hz (sl c) b 7 0 + (a - b) * E) - hz c b 8 0 = (a - b) * (hz (sl c) b 7 0 + (a - b) * E) by omega] at this
theorem alg12 {F D E hh w m t k : Int} (e1 : D * w - 1 = m * t) (e2 : hh = m * k - F * w) : F + hh * (D + hh * E) = m * (k * D - F * t) + hh * hh * E := by grind
/-- a step of Newton's -/
theorem newt {x y w m d e : Int} (hd : d ∣ hz c x 8 0) (he : e ∣ d * d) (hem : e ∣ m) (hdm : d ∣ m) (hw : m ∣ hz (sl c) x 7 0 * w - 1) (hy : m ∣ y - (x - hz c x 8 0 * w)) : e ∣ hz c y 8 0 ∧ d ∣ y - x := by
  obtain ⟨E, hE⟩ := tay (c := c) y x
  obtain ⟨t, ht⟩ := hw
  obtain ⟨k, hk⟩ := hy
  have e2 : y - x = m * k - hz c x 8 0 * w := by omega
  have d1 : d ∣ y - x := by
    rw [e2]
    exact Int.dvd_sub (Int.dvd_trans hdm (Int.dvd_mul_right _ _)) (Int.dvd_trans hd (Int.dvd_mul_right _ _))
  refine ⟨?_, d1⟩
  rw [hE, alg12 ht e2]
  refine Int.dvd_add (Int.dvd_trans hem (Int.dvd_mul_right _ _)) ?_
  refine Int.dvd_trans (Int.dvd_trans he ?_) (Int.dvd_mul_right _ _)
  exact Int.mul_dvd_mul d1 d1
/-- the next figure of y -/
theorem nextf (hp : 2 ≤ p) (y : Int) (k : Nat) : y % p ^ (k + 1) = y % p ^ k + (y / p ^ k % p) * p ^ k ∧ 0 ≤ y / p ^ k % p ∧ y / p ^ k % p < p := by
  have P := pw_pos hp k
  have r1 := em_lt (a := y) P
  have r2 := em_lt (a := y / p ^ k) (show 0 < p by omega)
  refine ⟨?_, r2⟩
  have P1 := pw_pos hp (k + 1)
  have r3 := em_lt (a := y) P1
  have e1 := Int.mul_ediv_add_emod y (p ^ k)
  have e2 := Int.mul_ediv_add_emod (y / p ^ k) p
  have b1 : (y / p ^ k % p) * p ^ k ≤ (p - 1) * p ^ k := Int.mul_le_mul_of_nonneg_right (by omega) (by omega)
  have b0 : 0 ≤ (y / p ^ k % p) * p ^ k := Int.mul_nonneg r2.1 (by omega)
  have b2 : (p - 1) * p ^ k = p ^ (k + 1) - p ^ k := by rw [pw_s, Int.sub_mul, Int.one_mul, Int.mul_comm]
  refine eq_of_dv r3.1 r3.2 (by omega) (by omega) ?_
  obtain ⟨t, ht⟩ := dv_mod (a := y) (m := p ^ (k + 1))
  have e3 : y = y % p ^ k + (y / p ^ k % p) * p ^ k + p ^ (k + 1) * (y / p ^ k / p) := by
    rw [pw_s]
    generalize y / p ^ k % p = d at *
    generalize y / p ^ k / p = q2 at *
    generalize y / p ^ k = q at *
    generalize y % p ^ k = r at *
    subst e2
    rw [← e1]
    grind
  refine ⟨t + y / p ^ k / p, ?_⟩
  rw [Int.mul_add, ← ht]
  omega
theorem dv_nextf (hp : 2 ≤ p) (y d : Int) {k : Nat} (hk : 1 ≤ k) : p ∣ y % p ^ k + d * p ^ k - y := by
  have h1 := dv_p hp hk
  have h2 := Int.dvd_add (Int.dvd_trans h1 (dv_mod (a := y) (m := p ^ k))) (Int.dvd_trans h1 (Int.dvd_mul_left d (p ^ k)))
  rwa [show y % p ^ k - y + d * p ^ k = y % p ^ k + d * p ^ k - y by omega] at h2
/-- of the figures only the right one fits -/
theorem onef (hp : 2 ≤ p) {y d : Int} {k : Nat} (hd0 : 0 ≤ d) (hd : d < p) (hx : p ^ (k + 1) ∣ y % p ^ k + d * p ^ k - y) : d = y / p ^ k % p := by
  have P := pw_pos hp k
  have P1 := pw_pos hp (k + 1)
  obtain ⟨n1, n2, n3⟩ := nextf hp y k
  have r1 := em_lt (a := y) P
  have r3 := em_lt (a := y) P1
  have b1 : d * p ^ k ≤ (p - 1) * p ^ k := Int.mul_le_mul_of_nonneg_right (by omega) (by omega)
  have b0 : 0 ≤ d * p ^ k := Int.mul_nonneg hd0 (by omega)
  have b2 : (p - 1) * p ^ k = p ^ (k + 1) - p ^ k := by rw [pw_s, Int.sub_mul, Int.one_mul, Int.mul_comm]
  have e : y % p ^ k + d * p ^ k = y % p ^ (k + 1) := by
    refine eq_of_dv (by omega) (by omega) r3.1 r3.2 ?_
    have := Int.dvd_sub hx (dv_mod (a := y) (m := p ^ (k + 1)))
    rwa [show y % p ^ k + d * p ^ k - y - (y % p ^ (k + 1) - y) = y % p ^ k + d * p ^ k - y % p ^ (k + 1) by omega] at this
  have e2 : d * p ^ k = (y / p ^ k % p) * p ^ k := by omega
  exact Int.eq_of_mul_eq_mul_right (by omega) e2
/-- the bounds of a tried figure -/
theorem bdf (hp : 2 ≤ p) {y d : Int} {k : Nat} (hd0 : 0 ≤ d) (hd : d < p) : 0 ≤ y % p ^ k + d * p ^ k ∧ y % p ^ k + d * p ^ k < p ^ (k + 1) ∧ 0 ≤ d * p ^ k := by
  have P := pw_pos hp k
  have r1 := em_lt (a := y) P
  have b1 : d * p ^ k ≤ (p - 1) * p ^ k := Int.mul_le_mul_of_nonneg_right (by omega) (by omega)
  have b0 : 0 ≤ d * p ^ k := Int.mul_nonneg hd0 (by omega)
  have b2 : (p - 1) * p ^ k = p ^ (k + 1) - p ^ k := by rw [pw_s, Int.sub_mul, Int.one_mul, Int.mul_comm]
  omega
end
