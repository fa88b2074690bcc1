/-! guesses: Euclid's steps on a power of the prime and the figures -/
def eu (M : Int) : Nat → Int → Int → Int → Int → Option (Int × Int)
  | 0, _, _, _, _ => none
  | n + 1, a, r, s, t => if r ≤ M then some (r, t) else eu M n r (a - a / r * r) t (s - a / r * t)
theorem fb_pos : ∀ q, 0 < fbn (q + 1) := by
  intro q
  induction q using Nat.strongRecOn with
  | ind q ih =>
    match q, ih with
    | 0, _ => decide
    | 1, _ => decide
    | q + 2, ih =>
      have := ih (q + 1) (by omega)
      show 0 < fbn (q + 1) + fbn (q + 1 + 1)
      omega
theorem eu_some {M : Int} (hM : 1 ≤ M) : ∀ (k n : Nat) (a r s t : Int), 0 ≤ r → r < fbn (k + 1) → k < n → ∃ R T, eu M n a r s t = some (R, T) := by
  intro k
  induction k using Nat.strongRecOn with
  | ind k ih =>
    intro n a r s t h0 hr hn
    obtain ⟨n, rfl⟩ : ∃ q, n = q + 1 := ⟨n - 1, by omega⟩
    unfold eu
    by_cases c : r ≤ M
    · rw [if_pos c]; exact ⟨_, _, rfl⟩
    · rw [if_neg c]
      have e1 : a - a / r * r = a % r := by have := Int.mul_ediv_add_emod a r; rw [Int.mul_comm] at this; omega
      have m1 := em_lt (a := a) (show 0 < r by omega)
      rw [e1]
      match k, ih, hr, hn with
      | 0, _, hr, _ => simp [fbn] at hr; omega
      | 1, _, hr, _ => simp [fbn] at hr; omega
      | k + 2, ih, hr, hn =>
        have hf : fbn (k + 2 + 1) = fbn (k + 1) + fbn (k + 2) := rfl
        by_cases c1 : a % r < fbn (k + 2)
        · exact ih (k + 1) (by omega) n r (a % r) t _ m1.1 c1 (by omega)
        · obtain ⟨n, rfl⟩ : ∃ q, n = q + 1 := ⟨n - 1, by omega⟩
          unfold eu
          by_cases c2 : a % r ≤ M
          · rw [if_pos c2]; exact ⟨_, _, rfl⟩
          · rw [if_neg c2]
            have e2 : r - r / (a % r) * (a % r) = r % (a % r) := by have := Int.mul_ediv_add_emod r (a % r); rw [Int.mul_comm] at this; omega
            have m2 := em_lt (a := r) (show 0 < a % r by omega)
            rw [e2]
            have m3 : r % (a % r) ≤ r - a % r := by
              have h1 := Int.mul_ediv_add_emod r (a % r)
              have h2 : 1 ≤ r / (a % r) := Int.le_ediv_of_mul_le (by omega) (by omega)
              have h3 : a % r * 1 ≤ a % r * (r / (a % r)) := Int.mul_le_mul_of_nonneg_left h2 (by omega)
              omega
            exact ih k (by omega) n (a % r) _ _ _ m2.1 (by omega) (by omega)
/-- what the steps keep to -/
def einv (P u a r s t : Int) : Prop := 0 ≤ r ∧ r < a ∧ a ≤ P ∧ (∃ e T S : Int, (e = 1 ∨ e = -1) ∧ t = e * T ∧ s = -(e * S) ∧ 1 ≤ T ∧ 0 ≤ S ∧ a * T + r * S = P) ∧ P ∣ r - t * u ∧ P ∣ a - s * u
theorem ab_le {a T r S P : Int} (ha : 1 ≤ a) (hT : 0 ≤ T) (hr : 0 ≤ r) (hS : 0 ≤ S) (e : a * T + r * S = P) : T ≤ P := by
  have h1 : 1 * T ≤ a * T := Int.mul_le_mul_of_nonneg_right ha hT
  have h2 : 0 ≤ r * S := Int.mul_nonneg hr hS
  omega
theorem einv_b {P u a r s t : Int} (h : einv P u a r s t) : t ≠ 0 ∧ t.natAbs ≤ P.natAbs := by
  obtain ⟨h1, h2, h3, ⟨e, T, S, h4, h5, h6, h7, h8, h9⟩, h10, h11⟩ := h
  have := ab_le (show 1 ≤ a by omega) (by omega) h1 h8 h9
  rcases h4 with rfl | rfl <;> constructor <;> omega
theorem einv_s {P u a r s t : Int} (h : einv P u a r s t) (hr : 0 < r) : einv P u r (a - a / r * r) t (s - a / r * t) := by
  obtain ⟨h1, h2, h3, ⟨e, T, S, h4, h5, h6, h7, h8, h9⟩, ⟨k1, h10⟩, ⟨k2, h11⟩⟩ := h
  have e1 : a - a / r * r = a % r := by have := Int.mul_ediv_add_emod a r; rw [Int.mul_comm] at this; omega
  have m1 := em_lt (a := a) hr
  have q1 : 1 ≤ a / r := Int.le_ediv_of_mul_le hr (by omega)
  have q2 : 1 * T ≤ a / r * T := Int.mul_le_mul_of_nonneg_right q1 (by omega)
  refine ⟨by rw [e1]; exact m1.1, by rw [e1]; exact m1.2, by omega, ⟨-e, S + a / r * T, T, by omega, ?_, ?_, by omega, by omega, ?_⟩, ⟨k2 - a / r * k1, ?_⟩, ⟨k1, h10⟩⟩
  · rw [h5, h6]; generalize a / r = q; grind
  · rw [h5]; grind
  · generalize a / r = q at *; rw [← h9]; grind
  · generalize a / r = q at *
    have : a - q * r - (s - q * t) * u = (a - s * u) - q * (r - t * u) := by grind
    rw [this, h10, h11]; grind
theorem eu_inv {M P u : Int} (hM : 0 ≤ M) : ∀ (n : Nat) (a r s t R T : Int), einv P u a r s t → eu M n a r s t = some (R, T) → 0 ≤ R ∧ R ≤ M ∧ T ≠ 0 ∧ T.natAbs ≤ P.natAbs ∧ P ∣ R - T * u := by
  intro n
  induction n with
  | zero => intro a r s t R T _ h; simp [eu] at h
  | succ n ih =>
    intro a r s t R T hi h
    unfold eu at h
    by_cases c : r ≤ M
    · rw [if_pos c] at h
      have h2 := Option.some.inj h
      have e1 : r = R := congrArg Prod.fst h2
      have e2 : t = T := congrArg Prod.snd h2
      subst e1 e2
      have := einv_b hi
      exact ⟨hi.1, c, this.1, this.2, hi.2.2.2.2.1⟩
    · rw [if_neg c] at h
      exact ih _ _ _ _ R T (einv_s hi (by omega)) h
section
variable {S SC SM : St} {p : Int} {K : Nat}
theorem cg_loop {P u M : Int} (hP : P ≤ 1000000000000000000) (hM : 0 ≤ M) (hM2 : M ≤ 1000000000) {rx : Nat} {x5 : Int64} {R T : Int} : ∀ (n f : Nat) (i a r s t : Int), einv P u a r s t → eu M n a r s t = some (R, T) → n ≤ f → 0 ≤ i → i + n ≤ 100 → m_X3_fractionWithin_73 f SC rx (jl M) x5 (jl a) (jl r) (jl s) (jl t) (ji i) = m_X3_fractionWithin_136 SC rx x5 (jl R) (jl T) := by
  intro n
  induction n with
  | zero => intro f i a r s t _ h; simp [eu] at h
  | succ n ih =>
    intro f i a r s t hi h hf h0 hn
    obtain ⟨f, rfl⟩ : ∃ q, f = q + 1 := ⟨f - 1, by omega⟩
    have h1 := hi.1
    have h2 := hi.2.1
    have h3 := hi.2.2.1
    unfold m_X3_fractionWithin_73
    rw [if_neg (fun q => by have := (ji_ler (a := i) (c := 100) (b := 100) ⟨by omega, by omega⟩ rfl (by decide)).mp q; omega)]
    unfold eu at h
    by_cases c : r ≤ M
    · rw [if_pos c] at h
      have h2 := Option.some.inj h
      have e1 : r = R := congrArg Prod.fst h2
      have e2 : t = T := congrArg Prod.snd h2
      subst e1 e2
      rw [if_pos ((jl_le ⟨by omega, by omega⟩ ⟨by omega, by omega⟩).mpr c)]
    · rw [if_neg c] at h
      rw [if_neg (fun q => c ((jl_le ⟨by omega, by omega⟩ ⟨by omega, by omega⟩).mp q)), if_neg (jl_ne0 ⟨by omega, by omega⟩ (by omega)), jl_div ⟨by omega, by omega⟩ (by omega) ⟨by omega, by omega⟩, jl_mul, jl_mul, jl_sub, jl_sub, show (1 : Int32) = ji 1 from rfl, ji_add]
      exact ih f (i + 1) _ _ _ _ (einv_s hi (by omega)) h (by omega) (by omega) (by omega)
theorem mg_loop {P u M : Int} (hP : P ≤ 1000000000000000000) (hM : 0 ≤ M) (hM2 : M ≤ 1000000000) {x6 : Int64} {R T : Int} : ∀ (n f : Nat) (a r s t : Int), einv P u a r s t → eu M n a r s t = some (R, T) → n ≤ f → m_X4_guessed_17 f SM (jl M) x6 (jl a) (jl r) (jl s) (jl t) = m_X4_guessed_71 SM x6 (jl R) (jl T) := by
  intro n
  induction n with
  | zero => intro f a r s t _ h; simp [eu] at h
  | succ n ih =>
    intro f a r s t hi h hf
    obtain ⟨f, rfl⟩ : ∃ q, f = q + 1 := ⟨f - 1, by omega⟩
    have h1 := hi.1
    have h2 := hi.2.1
    have h3 := hi.2.2.1
    unfold m_X4_guessed_17
    unfold eu at h
    by_cases c : r ≤ M
    · rw [if_pos c] at h
      have h2 := Option.some.inj h
      have e1 : r = R := congrArg Prod.fst h2
      have e2 : t = T := congrArg Prod.snd h2
      subst e1 e2
      rw [if_pos ((jl_le ⟨by omega, by omega⟩ ⟨by omega, by omega⟩).mpr c)]
    · rw [if_neg c] at h
      rw [if_neg (fun q => c ((jl_le ⟨by omega, by omega⟩ ⟨by omega, by omega⟩).mp q)), if_neg (jl_ne0 ⟨by omega, by omega⟩ (by omega)), jl_div ⟨by omega, by omega⟩ (by omega) ⟨by omega, by omega⟩, jl_mul, jl_mul, jl_sub, jl_sub]
      exact ih f _ _ _ _ (einv_s hi (by omega)) h (by omega)
/-- only guessR and guessS change -/
def sc0 (S S1 : St) : Prop := S1.1 = S.1 ∧ ∀ q, q ≠ 0 → S1.2 q = S.2 q
theorem sc0.fm {S1 : St} (h : sc0 S S1) (hS : fm S p K) : fm S1 p K := ⟨by rw [h.1]; exact hS.1, by rw [h.1]; exact hS.2.1, fun j hj => by rw [h.2 1 (by omega)]; exact hS.2.2 j hj⟩
theorem sc0_L {j : Nat} {v : Int64} {S1 : St} (h : sc0 S S1) : sc0 S (st_L S1 0 j v) := ⟨h.1, fun q hq => by funext t; simp only [st_L]; rw [if_neg (by omega)]; exact congrFun (h.2 q hq) t⟩
theorem sc0.scR {S1 : St} {m : Nat} (h : sc0 S S1) : scR m S S1 := ⟨fun q j _ _ _ _ => by rw [h.1], fun q j a _ _ => by rw [h.2 q (by omega)]⟩
/-- the reference's last looks at a guess -/
theorem mg_end (h : pk p K) (hS : fm SM p K) {R T MS : Int} (hR : 0 ≤ R) (hR2 : R ≤ 1000000000) (hT : T ≠ 0) (hT2 : T.natAbs ≤ 1000000000000000000) (hMS : 0 ≤ MS) (hMS2 : MS ≤ 1000000000) : ((R = 0 ∨ MS < T.natAbs ∨ p ∣ T) ∧ ∃ S1, m_X4_guessed_71 SM (jl MS) (jl R) (jl T) = some (0, S1) ∧ sc0 SM S1) ∨ (¬ (R = 0 ∨ MS < T.natAbs ∨ p ∣ T) ∧ ∃ S1 d x y, m_X4_guessed_71 SM (jl MS) (jl R) (jl T) = some (1, S1) ∧ sc0 SM S1 ∧ S1.2 0 14 = jl x ∧ S1.2 0 15 = jl y ∧ R = d * x ∧ T = d * y ∧ d ≠ 0 ∧ 1 ≤ y ∧ y ≤ MS ∧ x.natAbs ≤ R) := by
  have hp := pk_p h
  obtain ⟨gr, hgr⟩ : ∃ gr : Int, gr = if 0 ≤ T then R else -R := ⟨_, rfl⟩
  have E : m_X4_guessed_71 SM (jl MS) (jl R) (jl T) = m_X4_guessed_106 (st_L SM 0 14 (jl gr)) (jl MS) (jl R) (jl T.natAbs) := by
    unfold m_X4_guessed_71 m_X4_guessed_87
    by_cases c : 0 ≤ T
    · have c' := (jl_ler (a := T) (c := 0) (b := 0) ⟨by omega, by omega⟩ rfl (by decide)).mpr c
      rw [if_pos c', if_pos c', hgr, if_pos c, show ((T.natAbs : Nat) : Int) = T by omega]
    · have c' : ¬ (0 : Int64) ≤ jl T := fun q => c ((jl_ler (a := T) (c := 0) (b := 0) ⟨by omega, by omega⟩ rfl (by decide)).mp q)
      rw [if_neg c', if_neg c', hgr, if_neg c, jl_neg, jl_neg, show ((T.natAbs : Nat) : Int) = -T by omega]
  obtain ⟨S0, hS0⟩ : ∃ S0, S0 = st_L (st_L SM 0 14 (jl gr)) 0 15 (jl T.natAbs) := ⟨_, rfl⟩
  have s0 : sc0 SM S0 := by rw [hS0]; exact sc0_L (sc0_L ⟨rfl, fun _ _ => rfl⟩)
  have v15 : S0.2 0 15 = jl T.natAbs := by rw [hS0]; simp [st_L]
  have v14 : S0.2 0 14 = jl gr := by rw [hS0]; simp [st_L]
  rw [E]
  unfold m_X4_guessed_106
  rw [← hS0, v15, v14]
  by_cases c0 : R = 0
  · rw [if_pos (by rw [c0]; rfl)]
    exact Or.inl ⟨Or.inl c0, S0, rfl, s0⟩
  · rw [if_neg (jl_ne0 ⟨by omega, by omega⟩ c0)]
    by_cases c1 : (T.natAbs : Int) ≤ MS
    · rw [if_pos ((jl_le ⟨by omega, by omega⟩ ⟨by omega, by omega⟩).mpr c1)]
      obtain ⟨d, x, y, d1, d2, d3, d4, d5, d6⟩ := red_ex (up := R) hT
      have hg : Int.gcd gr (T.natAbs : Int) = d.natAbs := by
        rw [d1, hgr]
        split <;> simp [Int.gcd]
      have dle : d.natAbs ≤ T.natAbs := by
        rw [d5, Int.natAbs_mul]
        have := Nat.mul_le_mul_left d.natAbs (show 1 ≤ y.natAbs by have := d6.1; omega)
        omega
      have yle : y.natAbs ≤ T.natAbs := by
        rw [d5, Int.natAbs_mul]
        have := Nat.mul_le_mul_right y.natAbs (show 1 ≤ d.natAbs by omega)
        omega
      have xle : x.natAbs ≤ R.natAbs := by
        rw [d4, Int.natAbs_mul]
        have := Nat.mul_le_mul_right x.natAbs (show 1 ≤ d.natAbs by omega)
        omega
      have y1 := d6.1
      have dT : 0 ≤ T ↔ 0 < d := by
        constructor
        · intro q; exact d2.mpr (by omega)
        · intro q; have := d2.mp q; omega
      have q1 : gr.tdiv d.natAbs = x := by
        rw [hgr]
        by_cases c : 0 ≤ T
        · rw [if_pos c, show ((d.natAbs : Nat) : Int) = d by have := dT.mp c; omega, d4]; exact Int.mul_tdiv_cancel_left _ d3
        · rw [if_neg c, show ((d.natAbs : Nat) : Int) = -d by omega, d4, ← Int.neg_mul]; exact Int.mul_tdiv_cancel_left _ (by omega)
      have q2 : (T.natAbs : Int).tdiv d.natAbs = y := by
        by_cases c : 0 ≤ T
        · rw [show ((d.natAbs : Nat) : Int) = d by have := dT.mp c; omega, show ((T.natAbs : Nat) : Int) = T by omega, d5]; exact Int.mul_tdiv_cancel_left _ d3
        · rw [show ((d.natAbs : Nat) : Int) = -d by omega, show ((T.natAbs : Nat) : Int) = -T by omega, d5, ← Int.neg_mul]; exact Int.mul_tdiv_cancel_left _ (by omega)
      have bgr : gr.natAbs = R.natAbs := by rw [hgr]; split <;> omega
      rw [mf_gcd (by omega) (by omega) (by omega), ho_s, hg, if_neg (jl_ne0 ⟨by omega, by omega⟩ (by omega)), if_neg (jl_ne0 ⟨by omega, by omega⟩ (by omega)), jl_tdiv ⟨by omega, by omega⟩ ⟨by omega, by omega⟩ (by omega), q1]
      obtain ⟨S1, hS1⟩ : ∃ S1, S1 = st_L S0 0 14 (jl x) := ⟨_, rfl⟩
      have w15 : S1.2 0 15 = jl T.natAbs := by rw [hS1]; simp [st_L]; exact v15
      rw [← hS1, w15, jl_tdiv ⟨by omega, by omega⟩ ⟨by omega, by omega⟩ (by omega), q2]
      obtain ⟨S2, hS2⟩ : ∃ S2, S2 = st_L S1 0 15 (jl y) := ⟨_, rfl⟩
      have s2 : sc0 SM S2 := by rw [hS2, hS1]; exact sc0_L (sc0_L s0)
      have u15 : S2.2 0 15 = jl y := by rw [hS2]; simp [st_L]
      have u14 : S2.2 0 14 = jl x := by rw [hS2, hS1]; simp [st_L]
      have md := em_lt (a := (d.natAbs : Int)) (show 0 < p by omega)
      have my := em_lt (a := y) (show 0 < p by omega)
      rw [← hS2, u15, mf_p h (s2.fm hS), if_neg (jl_ne0 ⟨by omega, by omega⟩ (by omega)), if_neg (jl_ne0 ⟨by omega, by omega⟩ (by omega)), jl_mod ⟨by omega, by omega⟩ (by omega) ⟨by omega, by omega⟩, jl_mod ⟨by omega, by omega⟩ (by omega) ⟨by omega, by omega⟩]
      by_cases c2 : (d.natAbs : Int) % p = 0
      · rw [if_pos (by rw [c2]; rfl)]
        refine Or.inl ⟨Or.inr (Or.inr ?_), S2, rfl, s2⟩
        have : p ∣ d := Int.dvd_natAbs.mp (Int.dvd_of_emod_eq_zero c2)
        rw [d5]; exact Int.dvd_trans this (Int.dvd_mul_right _ _)
      · rw [if_neg (jl_ne0 ⟨by omega, by omega⟩ c2)]
        by_cases c3 : y % p = 0
        · rw [if_pos (by rw [c3]; rfl)]
          refine Or.inl ⟨Or.inr (Or.inr ?_), S2, rfl, s2⟩
          rw [d5]; exact Int.dvd_trans (Int.dvd_of_emod_eq_zero c3) (Int.dvd_mul_left _ _)
        · rw [if_neg (jl_ne0 ⟨by omega, by omega⟩ c3)]
          refine Or.inr ⟨?_, S2, d, x, y, rfl, s2, u14, u15, d4, d5, d3, y1, by omega, by omega⟩
          rintro (q | q | q)
          · exact c0 q
          · omega
          · rw [d5] at q
            rcases pk_prime h q with z | z
            · exact c2 (Int.emod_eq_zero_of_dvd (Int.dvd_natAbs.mpr z))
            · exact c3 (Int.emod_eq_zero_of_dvd z)
    · rw [if_neg (fun q => c1 ((jl_le ⟨by omega, by omega⟩ ⟨by omega, by omega⟩).mp q))]
      exact Or.inl ⟨Or.inr (Or.inl (by omega)), S0, rfl, s0⟩
/-- the reference's power of the prime, as far as the bound -/
theorem mg_by (h : pk p K) (hS : fm SM p K) {x1 x3 : Int32} {bnd : Int} (hb : 1 ≤ bnd) (hb2 : bnd ≤ 1000000000) {t : Nat} (ht : t ≤ 64) : ∀ (j n k : Nat), k + j = t → j < n → p ^ k ≤ bnd → m_X4_guess_147 n SM x1 (ji bnd) x3 (ji t) (jl (p ^ k)) (ji k) = (if p ^ t ≤ bnd then m_X4_guess_178 SM x1 (ji bnd) x3 (jl (p ^ t)) else some (-1, SM)) := by
  have hp := pk_p h
  intro j
  induction j with
  | zero =>
    intro n k hk hn hle
    obtain ⟨n, rfl⟩ : ∃ q, n = q + 1 := ⟨n - 1, by omega⟩
    have e : k = t := by omega
    subst e
    unfold m_X4_guess_147
    rw [if_pos ((ji_le ⟨by omega, by omega⟩ ⟨by omega, by omega⟩).mpr (by omega)), if_pos hle]
  | succ j ih =>
    intro n k hk hn hle
    obtain ⟨n, rfl⟩ : ∃ q, n = q + 1 := ⟨n - 1, by omega⟩
    have P := pw_pos hp.1 k
    unfold m_X4_guess_147
    rw [if_neg (fun q => by have := (ji_le (a := t) (b := k) ⟨by omega, by omega⟩ ⟨by omega, by omega⟩).mp q; omega), ji_l ⟨by omega, by omega⟩, if_neg (fun q => by have := (jl_lt (a := bnd) (b := p ^ k) ⟨by omega, by omega⟩ ⟨by omega, by omega⟩).mp q; omega), mf_p h hS, jl_mul, ← pw_s, show (1 : Int32) = ji 1 from rfl, ji_add, show ((k : Int) + 1) = ((k + 1 : Nat) : Int) by omega]
    by_cases c : p ^ (k + 1) ≤ bnd
    · exact ih n (k + 1) (by omega) (by omega) c
    · have c2 : p ^ (k + 1) ≤ 31 * 1000000000 := by
        rw [pw_s, Int.mul_comm]
        exact Int.mul_le_mul (by omega) (by omega) (by omega) (by omega)
      have le := pw_le hp.1 (show k + 1 ≤ t by omega)
      obtain ⟨n, rfl⟩ : ∃ q, n = q + 1 := ⟨n - 1, by omega⟩
      rw [if_neg (by omega)]
      have e178 : m_X4_guess_178 SM x1 (ji bnd) x3 (jl (p ^ (k + 1))) = some (-1, SM) := by
        unfold m_X4_guess_178
        rw [ji_l ⟨by omega, by omega⟩, if_pos ((jl_lt ⟨by omega, by omega⟩ ⟨by omega, by omega⟩).mpr (by omega))]
      unfold m_X4_guess_147
      rw [e178, ji_l ⟨by omega, by omega⟩, if_pos ((jl_lt (a := bnd) (b := p ^ (k + 1)) ⟨by omega, by omega⟩ ⟨by omega, by omega⟩).mpr (by omega))]
      split <;> rfl
end
