/-! the class's Figures, in whole numbers -/
theorem jl00 : jl 0 = 0 := rfl
theorem ji00 : ji 0 = 0 := rfl
theorem ho_s {α β : Type} {x : α} {f : α → Option β} : (some x).bind f = f x := rfl
theorem ji_min {a b : Int} (ha : ri a) (hb : ri b) : (if ji a < ji b then ji a else ji b) = ji (if a < b then a else b) := by
  by_cases h : a < b
  · rw [if_pos ((ji_lt ha hb).mpr h), if_pos h]
  · rw [if_neg (fun q => h ((ji_lt ha hb).mp q)), if_neg h]
theorem ji_max {a b : Int} (ha : ri a) (hb : ri b) : (if ji a < ji b then ji b else ji a) = ji (if a < b then b else a) := by
  by_cases h : a < b
  · rw [if_pos ((ji_lt ha hb).mpr h), if_pos h]
  · rw [if_neg (fun q => h ((ji_lt ha hb).mp q)), if_neg h]
def fc (S : St) (p : Int) (K : Nat) : Prop := S.1 1 1 = ji p ∧ S.1 1 2 = ji K ∧ ∀ j : Nat, j ≤ K → S.2 2 j = jl (p ^ j)
section
variable {S : St} {p : Int} {K : Nat}
theorem cf_power (h : pk p K) (hS : fc S p K) {n : Int} (hn : ri n) : m_X1_power S (ji n) = some (jl (p ^ (min n.toNat K))) := by
  have hK := pk_K h
  have e1 : (if ji K < ji n then ji K else ji n) = ji (if (K : Int) < n then K else n) := ji_min ⟨by omega, by omega⟩ hn
  have e2 : (if (0 : Int32) < ji (if (K : Int) < n then K else n) then ji (if (K : Int) < n then K else n) else (0 : Int32)) = ji (min n.toNat K : Nat) := by
    rw [show (0 : Int32) = ji 0 from rfl, ji_max (by decide) (by split <;> exact ⟨by omega, by omega⟩)]
    congr 1
    split <;> split <;> omega
  unfold m_X1_power
  rw [hS.2.1, e1, e2, if_neg (by rw [ji_oob ⟨by omega, by omega⟩]; omega), ji_nat ⟨by omega, by omega⟩, hS.2.2 _ (by omega)]
  rfl
theorem cf_pw (h : pk p K) (hS : fc S p K) {n : Nat} (hn : n ≤ K) : m_X1_power S (ji n) = some (jl (p ^ n)) := by
  have hK := pk_K h
  rw [cf_power h hS ⟨by omega, by omega⟩]
  congr 3
  omega
theorem xor_sgn {a b : Int} (ha : rl a) (hb : rl b) (h0 : 0 < b) : (0 : Int64) ≤ jl a ^^^ jl b ↔ 0 ≤ a := by
  have h1 : (jl a ^^^ jl b).toBitVec.msb = ((jl a).toBitVec.msb ^^ (jl b).toBitVec.msb) := by
    rw [Int64.toBitVec_xor, BitVec.msb_xor]
  have h2 : (jl a).toBitVec.msb = decide (a < 0) := by
    rw [BitVec.msb_eq_toInt, Int64.toInt_toBitVec, jl_toInt ha]
  have h3 : (jl b).toBitVec.msb = false := by
    rw [BitVec.msb_eq_toInt, Int64.toInt_toBitVec, jl_toInt hb]; simp; omega
  have h4 : (jl a ^^^ jl b).toBitVec.msb = decide ((jl a ^^^ jl b).toInt < 0) := by
    rw [BitVec.msb_eq_toInt, Int64.toInt_toBitVec]
  rw [h2, h3, Bool.xor_false, h4] at h1
  have h5 : ((jl a ^^^ jl b).toInt < 0) ↔ a < 0 := by simpa using h1
  rw [Int64.le_iff_toInt_le, Int64.toInt_zero]
  omega
theorem cf_fmod {a b : Int} (ha : rl a) (hn : a ≠ -9223372036854775808) (hb : rl b) (h0 : 0 < b) : m_J9_floorMod_f86c9 (jl a) (jl b) = some (jl (a % b)) := by
  unfold m_J9_floorMod_f86c9
  rw [if_neg (jl_ne0 hb (by omega)), jl_tmod ha hb hn]
  have e : a.tmod b = a % b - ((if 0 ≤ a ∨ b ∣ a then 0 else b.natAbs : Nat) : Int) := Int.tmod_eq_emod
  have r1 := Int.emod_nonneg a (show b ≠ 0 by omega)
  have r2 := Int.emod_lt_of_pos a h0
  by_cases h : 0 ≤ a
  · rw [if_pos ((xor_sgn ha hb h0).mpr h), Int.tmod_eq_emod_of_nonneg h]
  · rw [if_neg (fun q => h ((xor_sgn ha hb h0).mp q))]
    by_cases hd : b ∣ a
    · rw [if_pos (Or.inr hd)] at e
      have e0 : a % b = 0 := Int.emod_eq_zero_of_dvd hd
      rw [e0] at e
      rw [if_pos (by rw [e]; rfl), e, e0]
      rfl
    · rw [if_neg (fun q => q.elim h hd)] at e
      have e0 : a % b ≠ 0 := fun q => hd (Int.dvd_of_emod_eq_zero q)
      have e2 : a.tmod b + b = a % b := by omega
      rw [if_neg (jl_ne0 ⟨by omega, by omega⟩ (by omega)), jl_add, e2]
theorem cf_reduce (h : pk p K) (hS : fc S p K) {a : Int} (ha : rl a) (hn : a ≠ -9223372036854775808) {n : Nat} (hk : n ≤ K) : m_X1_reduce S (jl a) (ji n) = some (jl (a % p ^ n)) := by
  have h1 := pw_K h hk
  unfold m_X1_reduce
  rw [cf_pw h hS hk, ho_s, cf_fmod ha hn ⟨by omega, by omega⟩ h1.1]
  rfl
theorem cf_p (h : pk p K) (hS : fc S p K) : (S.1 1 1).toInt64 = jl p := by
  have h1 := pk_p h
  rw [hS.1, ji_l ⟨by omega, by omega⟩]
theorem cf_lowest (h : pk p K) (hS : fc S p K) {a : Int} (ha : rl a) (hn : a ≠ -9223372036854775808) : m_X1_lowest S (jl a) = some (ji (a % p)) := by
  have h1 := pk_p h
  unfold m_X1_lowest
  rw [cf_p h hS, cf_fmod ha hn ⟨by omega, by omega⟩ (by omega)]
  show some ((jl (a % p)).toInt32) = _
  rw [jl_i]
/-! how often p is in a number -/
theorem pv_ex (hp : 2 ≤ p) : ∀ (n : Nat) (a : Int), a ≠ 0 → a.natAbs ≤ n → ∃ (v : Nat) (u : Int), a = p ^ v * u ∧ ¬ p ∣ u := by
  intro n
  induction n with
  | zero => intro a h0 h; omega
  | succ n ih =>
    intro a h0 h
    by_cases hd : p ∣ a
    · obtain ⟨b, rfl⟩ := hd
      have hb : b ≠ 0 := fun q => h0 (by rw [q, Int.mul_zero])
      have hlt : b.natAbs ≤ n := by
        rw [Int.natAbs_mul] at h
        have : 2 * b.natAbs ≤ p.natAbs * b.natAbs := Nat.mul_le_mul_right _ (by omega)
        omega
      obtain ⟨v, u, e, hu⟩ := ih b hb hlt
      exact ⟨v + 1, u, by rw [pw_s, e]; grind, hu⟩
    · exact ⟨0, a, by simp, hd⟩
theorem pv_of (hp : 2 ≤ p) {a : Int} (h : a ≠ 0) : ∃ (v : Nat) (u : Int), a = p ^ v * u ∧ ¬ p ∣ u := pv_ex hp a.natAbs a h (Nat.le_refl _)
theorem pv_lt (hp : 2 ≤ p) : ∀ v : Nat, (v : Int) < p ^ v := by
  intro v
  induction v with
  | zero => simp
  | succ v ih =>
    rw [pw_s]
    have h2 : p ^ v * 2 ≤ p ^ v * p := Int.mul_le_mul_of_nonneg_left hp (by have := pw_pos hp v; omega)
    omega
theorem pv_bd (hp : 2 ≤ p) {v : Nat} {a u : Int} (e : a = p ^ v * u) (hu : u ≠ 0) : p ^ v ≤ a.natAbs ∧ u.natAbs ≤ a.natAbs := by
  have h1 := pw_pos hp v
  have e2 : (a.natAbs : Int) = p ^ v * u.natAbs := by
    rw [e, Int.natAbs_mul]
    have : ((p ^ v).natAbs : Int) = p ^ v := by omega
    rw [Int.natCast_mul, this]
  rw [e2]
  refine ⟨?_, ?_⟩
  · have : p ^ v * 1 ≤ p ^ v * u.natAbs := Int.mul_le_mul_of_nonneg_left (by omega) (by omega)
    omega
  · have e3 : ((u.natAbs : Int)) * 1 ≤ u.natAbs * p ^ v := Int.mul_le_mul_of_nonneg_left (by omega) (by omega)
    have e4 : (u.natAbs : Int) ≤ p ^ v * u.natAbs := by rw [Int.mul_comm (p ^ v)]; omega
    omega
theorem pv_63 (hp : 2 ≤ p) {v : Nat} {a : Int} (ha : rl a) (h : p ^ v ≤ a.natAbs) : v ≤ 63 := by
  rcases Nat.lt_or_ge v 64 with q | q
  · omega
  · have h1 : (2 : Int) ^ 64 ≤ p ^ 64 := by
      have h3 : ∀ n : Nat, (2 : Int) ^ n ≤ p ^ n := by
        intro n
        induction n with
        | zero => simp
        | succ n ih =>
          rw [pw_s, pw_s]
          have := pw_pos (show (2 : Int) ≤ 2 by omega) n
          exact Int.mul_le_mul ih hp (by omega) (by have := pw_pos hp n; omega)
      exact h3 64
    have h2 := pw_le hp q
    have : (2 : Int) ^ 64 = 18446744073709551616 := by decide
    omega
theorem pv_uniq (hp : 2 ≤ p) : ∀ (v w : Nat) (a b : Int), p ^ v * a = p ^ w * b → ¬ p ∣ a → ¬ p ∣ b → v = w ∧ a = b := by
  intro v
  induction v with
  | zero =>
    intro w a b e ha hb
    cases w with
    | zero => exact ⟨rfl, by simpa using e⟩
    | succ w => exact absurd ⟨p ^ w * b, by rw [pw_s] at e; grind⟩ ha
  | succ v ih =>
    intro w a b e ha hb
    cases w with
    | zero => exact absurd ⟨p ^ v * a, by rw [pw_s] at e; grind⟩ hb
    | succ w =>
      have e2 : p ^ v * a = p ^ w * b := by
        rw [pw_s, pw_s] at e
        exact Int.eq_of_mul_eq_mul_left (show p ≠ 0 by omega) (by grind)
      obtain ⟨h1, h2⟩ := ih w a b e2 ha hb
      exact ⟨by omega, h2⟩
theorem rl_abs {a : Int} (ha : rl a) {u : Int} (h : u.natAbs ≤ a.natAbs) (hn : a ≠ -9223372036854775808) : rl u ∧ u ≠ -9223372036854775808 := ⟨⟨by omega, by omega⟩, by omega⟩
/-- one step down: p u / p -/
theorem cf_down (hp : 2 ≤ p ∧ p ≤ 31) {v : Nat} {u : Int} : (p ^ (v + 1) * u).tmod p = 0 ∧ (p ^ (v + 1) * u).tdiv p = p ^ v * u := by
  have e : p ^ (v + 1) * u = (p ^ v * u) * p := by rw [pw_s]; grind
  rw [e]
  exact ⟨Int.mul_tmod_left _ _, Int.mul_tdiv_cancel _ (by omega)⟩
theorem cf_strip_loop (h : pk p K) (hS : fc S p K) {u : Int} (hu : ¬ p ∣ u) : ∀ (v n : Nat) (i : Int), v < n → 0 ≤ i → i + v ≤ 63 → rl (p ^ v * u) → p ^ v * u ≠ -9223372036854775808 → m_X1_strip_5 S n (jl (p ^ v * u)) (ji i) = some (jl u) := by
  have hp := pk_p h
  intro v
  induction v with
  | zero =>
    intro n i hn h0 hi hr hm
    obtain ⟨n, rfl⟩ : ∃ k, n = k + 1 := ⟨n - 1, by omega⟩
    rw [Int.pow_zero, Int.one_mul] at *
    unfold m_X1_strip_5
    rw [cf_p h hS, if_neg (fun q => by have := (ji_le (a := 64) (b := i) (by decide) ⟨by omega, by omega⟩).mp q; omega), if_neg (jl_ne0 ⟨by omega, by omega⟩ (by omega)), jl_tmod hr ⟨by omega, by omega⟩ hm, if_neg]
    intro q
    have h1 : rl (u.tmod p) := by
      have := Int.natAbs_tmod u p
      have h3 := Nat.mod_lt u.natAbs (show 0 < p.natAbs by omega)
      exact ⟨by omega, by omega⟩
    exact hu (Int.dvd_of_tmod_eq_zero ((jl_eq h1 (by decide)).mp q))
  | succ v ih =>
    intro n i hn h0 hi hr hm
    obtain ⟨n, rfl⟩ : ∃ k, n = k + 1 := ⟨n - 1, by omega⟩
    have hd := cf_down hp (v := v) (u := u)
    have hb := rl_abs hr (u := p ^ v * u) (by rw [← hd.2, Int.natAbs_tdiv]; exact Nat.div_le_self _ _) hm
    unfold m_X1_strip_5
    rw [cf_p h hS, if_neg (fun q => by have := (ji_le (a := 64) (b := i) (by decide) ⟨by omega, by omega⟩).mp q; omega), if_neg (jl_ne0 ⟨by omega, by omega⟩ (by omega)), jl_tmod hr ⟨by omega, by omega⟩ hm, hd.1, if_pos jl00, if_neg (jl_ne0 ⟨by omega, by omega⟩ (by omega)), jl_tdiv hr ⟨by omega, by omega⟩ hm, hd.2, show (1 : Int32) = ji 1 from rfl, ji_add]
    exact ih n (i + 1) (by omega) (by omega) (by omega) hb.1 hb.2
theorem cf_times_loop (h : pk p K) (hS : fc S p K) {u : Int} (hu : ¬ p ∣ u) : ∀ (v n : Nat) (i : Int), v < n → 0 ≤ i → i + v ≤ 63 → rl (p ^ v * u) → p ^ v * u ≠ -9223372036854775808 → m_X1_timesIn_5 S n (ji i) (jl (p ^ v * u)) = some (ji (i + v)) := by
  have hp := pk_p h
  intro v
  induction v with
  | zero =>
    intro n i hn h0 hi hr hm
    obtain ⟨n, rfl⟩ : ∃ k, n = k + 1 := ⟨n - 1, by omega⟩
    rw [Int.pow_zero, Int.one_mul] at *
    unfold m_X1_timesIn_5
    rw [cf_p h hS, if_neg (fun q => by have := (ji_le (a := 64) (b := i) (by decide) ⟨by omega, by omega⟩).mp q; omega), if_neg (jl_ne0 ⟨by omega, by omega⟩ (by omega)), jl_tmod hr ⟨by omega, by omega⟩ hm, if_neg]
    · simp
    intro q
    have h1 : rl (u.tmod p) := by
      have := Int.natAbs_tmod u p
      have h3 := Nat.mod_lt u.natAbs (show 0 < p.natAbs by omega)
      exact ⟨by omega, by omega⟩
    exact hu (Int.dvd_of_tmod_eq_zero ((jl_eq h1 (by decide)).mp q))
  | succ v ih =>
    intro n i hn h0 hi hr hm
    obtain ⟨n, rfl⟩ : ∃ k, n = k + 1 := ⟨n - 1, by omega⟩
    have hd := cf_down hp (v := v) (u := u)
    have hb := rl_abs hr (u := p ^ v * u) (by rw [← hd.2, Int.natAbs_tdiv]; exact Nat.div_le_self _ _) hm
    unfold m_X1_timesIn_5
    rw [cf_p h hS, if_neg (fun q => by have := (ji_le (a := 64) (b := i) (by decide) ⟨by omega, by omega⟩).mp q; omega), if_neg (jl_ne0 ⟨by omega, by omega⟩ (by omega)), jl_tmod hr ⟨by omega, by omega⟩ hm, hd.1, if_pos jl00, if_neg (jl_ne0 ⟨by omega, by omega⟩ (by omega)), jl_tdiv hr ⟨by omega, by omega⟩ hm, hd.2, show (1 : Int32) = ji 1 from rfl, ji_add, ih n (i + 1) (by omega) (by omega) (by omega) hb.1 hb.2]
    congr 2
    omega
theorem cf_strip (h : pk p K) (hS : fc S p K) {v : Nat} {a u : Int} (ha : rl a) (hm : a ≠ -9223372036854775808) (e : a = p ^ v * u) (hu : ¬ p ∣ u) : m_X1_strip S (jl a) = some (jl u) ∧ m_X1_timesIn S (jl a) = some (ji v) := by
  have hp := pk_p h
  have hu0 : u ≠ 0 := fun q => hu (by rw [q]; exact Int.dvd_zero _)
  have hv := pv_63 hp.1 ha (pv_bd hp.1 e hu0).1
  subst e
  unfold m_X1_strip m_X1_timesIn
  refine ⟨cf_strip_loop h hS hu v fu 0 (by unfold fu; omega) (by omega) (by omega) ha hm, ?_⟩
  have := cf_times_loop h hS hu v fu 0 (by unfold fu; omega) (by omega) (by omega) ha hm
  rw [show (0 : Int32) = ji 0 from rfl, this]
  congr 2
  omega
end
section
variable {S : St} {p : Int} {K : Nat}
theorem cf_shift_loop (h : pk p K) (hS : fc S p K) {t : Int} (ht : t ≤ 64) (ht2 : -100 ≤ t) : ∀ (n : Nat) (i a : Int), 0 ≤ i → i ≤ 64 → 0 ≤ a → a < 2147483648 → t - i < n → 0 < n → m_X1_shiftDown_6 S n (ji t) (jl a) (ji i) = some (jl (a / p ^ (t - i).toNat)) := by
  have hp := pk_p h
  intro n
  induction n with
  | zero => intro i a _ _ _ _ _ hn; omega
  | succ n ih =>
    intro i a h0 hi ha hb hc _
    unfold m_X1_shiftDown_6
    by_cases c1 : t ≤ i
    · rw [if_pos ((ji_le ⟨by omega, by omega⟩ ⟨by omega, by omega⟩).mpr c1), show (t - i).toNat = 0 by omega, Int.pow_zero, Int.ediv_one]
    · rw [if_neg (fun q => c1 ((ji_le ⟨by omega, by omega⟩ ⟨by omega, by omega⟩).mp q))]
      by_cases c2 : a = 0
      · subst c2
        rw [if_pos jl00, Int.zero_ediv]
      · rw [if_neg (jl_ne0 ⟨by omega, by omega⟩ c2), cf_p h hS, if_neg (jl_ne0 ⟨by omega, by omega⟩ (by omega)), jl_div ⟨by omega, by omega⟩ ha ⟨by omega, by omega⟩, show (1 : Int32) = ji 1 from rfl, ji_add]
        have h1 : 0 ≤ a / p := Int.ediv_nonneg ha (by omega)
        have h2 : a / p ≤ a := Int.ediv_le_self _ ha
        rw [ih (i + 1) (a / p) (by omega) (by omega) h1 (by omega) (by omega) (by omega)]
        congr 2
        rw [show (t - i).toNat = (t - (i + 1)).toNat + 1 by omega, pw_s, Int.mul_comm, Int.ediv_ediv_of_nonneg (by omega)]
theorem cf_shift (h : pk p K) (hS : fc S p K) {a t : Int} (ha : 0 ≤ a) (hb : a < 2147483648) (ht : t ≤ 64) (ht2 : -100 ≤ t) : m_X1_shiftDown S (jl a) (ji t) = some (jl (a / p ^ t.toNat)) := by
  unfold m_X1_shiftDown
  have := cf_shift_loop h hS ht ht2 fu 0 a (by omega) (by omega) ha hb (by unfold fu; omega) (by unfold fu; omega)
  rw [Int.sub_zero] at this
  rw [show (0 : Int32) = ji 0 from rfl, this]
/-! products by halves -/
theorem em_lt {a m : Int} (hm : 0 < m) : 0 ≤ a % m ∧ a % m < m := ⟨Int.emod_nonneg _ (by omega), Int.emod_lt_of_pos _ hm⟩
theorem mul_lt2 {a b m n : Int} (ha : 0 ≤ a) (ha2 : a < m) (hb : 0 ≤ b) (hb2 : b < n) : 0 ≤ a * b ∧ a * b < m * n := by
  refine ⟨Int.mul_nonneg ha hb, ?_⟩
  have h1 : a * b ≤ a * n := Int.mul_le_mul_of_nonneg_left (by omega) ha
  have h2 : a * n < m * n := Int.mul_lt_mul_of_pos_right ha2 (by omega)
  omega
theorem em_add_mul (a m k : Int) : (a + m * k) % m = a % m := Int.add_mul_emod_self_left a m k
theorem cf_product (h : pk p K) (hS : fc S p K) {a b : Int} {n : Nat} (hn : n ≤ K) (ha : 0 ≤ a) (ha2 : a < p ^ n) (hb : 0 ≤ b) (hb2 : b < p ^ n) : m_X1_product S (jl a) (jl b) (ji n) = some (jl (a * b % p ^ n)) := by
  have hp := pk_p h
  have hK := pk_K h
  obtain ⟨t, ht⟩ : ∃ t : Nat, t = n / 2 := ⟨_, rfl⟩
  have e1 : ji n / (2 : Int32) = ji t := by
    rw [show (2 : Int32) = ji 2 from rfl, ji_div ⟨by omega, by omega⟩ (by omega) (by decide)]; congr 1; omega
  have e2 : ji n - ji t = ji (n - t : Nat) := by rw [ji_sub]; congr 1; omega
  have e3 : (2 : Int32) * ji t = ji (2 * t : Nat) := by rw [show (2 : Int32) = ji 2 from rfl, ji_mul]; congr 1
  have e4 : ji n - ji (2 * t : Nat) = ji (n - 2 * t : Nat) := by rw [ji_sub]; congr 1; omega
  unfold m_X1_product
  rw [e1, e2, e3, e4, cf_pw h hS (show t ≤ K by omega), cf_pw h hS (show n - t ≤ K by omega), cf_pw h hS (show n - 2 * t ≤ K by omega), cf_pw h hS (show 2 * t ≤ K by omega), cf_pw h hS hn, cf_p h hS]
  have q1 := pw_K h (show t ≤ K by omega)
  have q2 := pw_K h (show n - t ≤ K by omega)
  have q3 := pw_K h (show n - 2 * t ≤ K by omega)
  have q4 := pw_K h (show 2 * t ≤ K by omega)
  have q5 := pw_K h hn
  have f1 : p ^ n = p ^ (n - t) * p ^ t := by rw [← pw_add]; congr 1; omega
  have f2 : p ^ n = p ^ (n - 2 * t) * p ^ (2 * t) := by rw [← pw_add]; congr 1; omega
  have f3 : p ^ (2 * t) = p ^ t * p ^ t := by rw [← pw_add]; congr 1; omega
  have f4 : p ^ (n - 2 * t) ∣ p := by
    have : n - 2 * t = 0 ∨ n - 2 * t = 1 := by omega
    rcases this with q | q
    · rw [q]; exact ⟨p, by simp⟩
    · rw [q]; exact ⟨1, by rw [show (1 : Nat) = 0 + 1 from rfl, pw_s, Int.pow_zero]; omega⟩
  have f5 : p ^ t ≤ p ^ (n - t) := pw_le hp.1 (by omega)
  generalize p ^ n = m at *
  generalize p ^ (n - t) = mh at *
  generalize p ^ (n - 2 * t) = mo at *
  generalize p ^ (2 * t) = mt at *
  generalize p ^ t = st at *
  have ra := em_lt (a := a) q1.1
  have rb := em_lt (a := b) q1.1
  have da : a = st * (a / st) + a % st := (Int.mul_ediv_add_emod a st).symm
  have db : b = st * (b / st) + b % st := (Int.mul_ediv_add_emod b st).symm
  have na : 0 ≤ a / st := Int.ediv_nonneg ha (by omega)
  have nb : 0 ≤ b / st := Int.ediv_nonneg hb (by omega)
  have la : a / st < mh := Int.ediv_lt_of_lt_mul q1.1 (by rw [← f1]; exact ha2)
  have lb : b / st < mh := Int.ediv_lt_of_lt_mul q1.1 (by rw [← f1]; exact hb2)
  simp only [ho_s]
  rw [if_neg (jl_ne0 ⟨by omega, by omega⟩ (by omega)), if_neg (jl_ne0 ⟨by omega, by omega⟩ (by omega)), if_neg (jl_ne0 ⟨by omega, by omega⟩ (by omega)), if_neg (jl_ne0 ⟨by omega, by omega⟩ (by omega)), if_neg (jl_ne0 ⟨by omega, by omega⟩ (by omega)), if_neg (jl_ne0 ⟨by omega, by omega⟩ (by omega)), if_neg (jl_ne0 ⟨by omega, by omega⟩ (by omega)), if_neg (jl_ne0 ⟨by omega, by omega⟩ (by omega)), if_neg (jl_ne0 ⟨by omega, by omega⟩ (by omega))]
  rw [jl_mod ⟨by omega, by omega⟩ ha ⟨by omega, by omega⟩, jl_mod ⟨by omega, by omega⟩ hb ⟨by omega, by omega⟩, jl_div ⟨by omega, by omega⟩ ha ⟨by omega, by omega⟩, jl_div ⟨by omega, by omega⟩ hb ⟨by omega, by omega⟩]
  generalize a / st = A1 at *
  generalize a % st = A0 at *
  generalize b / st = B1 at *
  generalize b % st = B0 at *
  have m1 := mul_lt2 na la rb.1 rb.2
  have m2 := mul_lt2 ra.1 ra.2 nb lb
  have m3 := mul_lt2 ra.1 ra.2 rb.1 rb.2
  have f6 : st * st ≤ m := by rw [f1]; exact Int.mul_le_mul_of_nonneg_right f5 (by omega)
  have f7 : st * mh = m := by rw [f1, Int.mul_comm]
  rw [← f1] at m1
  rw [f7] at m2
  rw [jl_mul, jl_mul, jl_mul, jl_add, jl_mod ⟨by omega, by omega⟩ (by omega) ⟨by omega, by omega⟩, jl_mod ⟨by omega, by omega⟩ na ⟨by omega, by omega⟩, jl_mod ⟨by omega, by omega⟩ nb ⟨by omega, by omega⟩, jl_mul]
  have ra1 := em_lt (a := A1) (show 0 < p by omega)
  have rb1 := em_lt (a := B1) (show 0 < p by omega)
  have m4 := mul_lt2 ra1.1 ra1.2 rb1.1 rb1.2
  have m5 : p * p ≤ 31 * 31 := Int.mul_le_mul hp.2 hp.2 (by omega) (by omega)
  rw [jl_mul (A1 % p), jl_mod ⟨by omega, by omega⟩ m4.1 ⟨by omega, by omega⟩, jl_mul _ mt, jl_add, jl_add]
  have c1 := em_lt (a := A1 * B0 + A0 * B1) q2.1
  have c2 := em_lt (a := A1 % p * (B1 % p)) q3.1
  have m6 := mul_lt2 c1.1 c1.2 (show 0 ≤ st by omega) (show st < st + 1 by omega)
  have m7 := mul_lt2 c2.1 c2.2 (show 0 ≤ mt by omega) (show mt < mt + 1 by omega)
  have m8 : (A1 * B0 + A0 * B1) % mh * st ≤ m := by
    have : (A1 * B0 + A0 * B1) % mh * st ≤ mh * st := Int.mul_le_mul_of_nonneg_right (by omega) (by omega)
    omega
  have m9 : A1 % p * (B1 % p) % mo * mt ≤ m := by
    have : A1 % p * (B1 % p) % mo * mt ≤ mo * mt := Int.mul_le_mul_of_nonneg_right (by omega) (by omega)
    omega
  rw [jl_mod ⟨by omega, by omega⟩ (by omega) ⟨by omega, by omega⟩]
  congr 2
  -- the sum and a b differ by a multiple of m
  obtain ⟨k1, hk1⟩ : ∃ k, A1 * B0 + A0 * B1 = mh * k + (A1 * B0 + A0 * B1) % mh := ⟨_, (Int.mul_ediv_add_emod _ _).symm⟩
  obtain ⟨k2, hk2⟩ : ∃ k, A1 * B1 = mo * k + A1 % p * (B1 % p) % mo := by
    have e : A1 * B1 % mo = A1 % p * (B1 % p) % mo := by
      rw [Int.mul_emod A1 B1, Int.mul_emod (A1 % p) (B1 % p), Int.emod_emod_of_dvd _ f4, Int.emod_emod_of_dvd _ f4]
    exact ⟨A1 * B1 / mo, by rw [← e]; exact (Int.mul_ediv_add_emod _ _).symm⟩
  generalize (A1 * B0 + A0 * B1) % mh = c at *
  generalize A1 % p * (B1 % p) % mo = d at *
  have : a * b = (A0 * B0 + c * st + d * mt) + m * (k1 + k2) := by
    rw [da, db]
    grind
  rw [this, em_add_mul]
end
