/-! first figures of roots; roots of one -/
section
variable {S SC SM : St} {p : Int} {K : Nat}
theorem cs_isGood (h : pk p K) (hS : fc S p K) {c : Nat → Int} (hc : cf8 (S.1 5) c) {x : Int} (hx : 0 ≤ x) (hx2 : x < p) : m_X3_isGood S (ji x) = some (if hz c x 8 0 % p = 0 ∧ ¬ hz (sl c) x 7 0 % p = 0 then 1 else 0) ∧ m_X3_isStuck S (ji x) = some (if hz c x 8 0 % p = 0 ∧ hz (sl c) x 7 0 % p = 0 then 1 else 0) := by
  have hp := pk_p h
  have hK := pk_K h
  have e1 := cf_valueAt h hS (r := 5) (by decide) hc (N := 1) (by omega) hx (by rw [pw1]; exact hx2)
  have e2 := cf_slopeAt h hS (r := 5) (by decide) hc (N := 1) (by omega) hx (by rw [pw1]; exact hx2)
  rw [pw1] at e1 e2
  have r1 := em_lt (a := hz c x 8 0) (show 0 < p by omega)
  have r2 := em_lt (a := hz (sl c) x 7 0) (show 0 < p by omega)
  unfold m_X3_isGood m_X3_isStuck
  rw [ji_l ⟨by omega, by omega⟩, show (1 : Int32) = ji (1 : Nat) from rfl, e1, e2]
  by_cases c1 : hz c x 8 0 % p = 0
  · have d1 : jl (hz c x 8 0 % p) = 0 := by rw [c1]; rfl
    by_cases c2 : hz (sl c) x 7 0 % p = 0
    · have d2 : jl (hz (sl c) x 7 0 % p) = 0 := by rw [c2]; rfl
      exact ⟨by rw [ho_s, if_pos d1, ho_s, if_pos d2, if_neg (by omega)], by rw [ho_s, if_pos d1, ho_s, if_pos d2, if_pos ⟨c1, c2⟩]⟩
    · have d2 := jl_ne0 (b := hz (sl c) x 7 0 % p) ⟨by omega, by omega⟩ c2
      exact ⟨by rw [ho_s, if_pos d1, ho_s, if_neg d2, if_pos ⟨c1, c2⟩], by rw [ho_s, if_pos d1, ho_s, if_neg d2, if_neg (by omega)]⟩
  · have d1 := jl_ne0 (b := hz c x 8 0 % p) ⟨by omega, by omega⟩ c1
    exact ⟨by rw [ho_s, if_neg d1, if_neg (by omega)], by rw [ho_s, if_neg d1, if_neg (by omega)]⟩
theorem firsts_loop (h : pk p K) (hc : fc SC p K) (hm : fm SM p K) {c : Nat → Int} (h1 : cf8 (SC.1 5) c) (h2 : cf8 (SM.1 10) c) (b : Bool) : ∀ (k n : Nat) (acc : Int32), k < n → (k : Int) ≤ p → ∃ r, m_X3_firsts_16 SC n (if b then 1 else 0) acc (ji (p - k)) = some r ∧ m_X4_firsts_17 SM n (if b then 1 else 0) acc (ji (p - k)) = some r := by
  have hp := pk_p h
  intro k
  induction k with
  | zero =>
    intro n acc hn _
    obtain ⟨n, rfl⟩ : ∃ t, n = t + 1 := ⟨n - 1, by omega⟩
    unfold m_X3_firsts_16 m_X4_firsts_17
    rw [hc.1, hm.1, if_pos ((ji_le ⟨by omega, by omega⟩ ⟨by omega, by omega⟩).mpr (by omega)), if_pos ((ji_le ⟨by omega, by omega⟩ ⟨by omega, by omega⟩).mpr (by omega))]
    exact ⟨_, rfl, rfl⟩
  | succ k ih =>
    intro n acc hn hk
    obtain ⟨n, rfl⟩ : ∃ t, n = t + 1 := ⟨n - 1, by omega⟩
    have no : ¬ ji p ≤ ji (p - (k + 1 : Nat)) := fun q => by have := (ji_le (a := p) (b := p - (k + 1 : Nat)) ⟨by omega, by omega⟩ ⟨by omega, by omega⟩).mp q; omega
    obtain ⟨g1, g2⟩ := cs_isGood h hc h1 (x := p - (k + 1 : Nat)) (by omega) (by omega)
    have g3 := mf_isFirst h hm h2 (x := p - (k + 1 : Nat)) (by omega) (by omega)
    have ee : ji (p - (k + 1 : Nat)) + 1 = ji (p - k) := by rw [show (1 : Int32) = ji 1 from rfl, ji_add]; congr 1; omega
    unfold m_X3_firsts_16 m_X4_firsts_17
    rw [hc.1, hm.1, if_neg no, if_neg no]
    unfold m_X4_firsts_38 m_X3_firsts_44 m_X3_firsts_59 m_X4_firsts_51
    dsimp only
    rw [ee]
    cases b with
    | false =>
      have g3 := g3 false
      simp only [Bool.false_eq_true, if_false, iff_false] at g3
      simp only [Bool.false_eq_true, if_false]
      rw [if_pos trivial, if_neg (by decide), g1, g3, ho_s, ho_s]
      by_cases q : hz c (p - (k + 1 : Nat)) 8 0 % p = 0 ∧ ¬ hz (sl c) (p - (k + 1 : Nat)) 7 0 % p = 0
      · simp only [if_pos q, if_neg (show ¬ (1 : Int32) = 0 by decide)]
        exact ih n _ (by omega) (by omega)
      · simp only [if_neg q, if_pos (show (0 : Int32) = 0 from rfl)]
        exact ih n _ (by omega) (by omega)
    | true =>
      have g3 := g3 true
      simp only [if_true, iff_true] at g3
      simp only [if_true]
      rw [if_neg (by decide), g2, g3, ho_s, ho_s]
      by_cases q : hz c (p - (k + 1 : Nat)) 8 0 % p = 0 ∧ hz (sl c) (p - (k + 1 : Nat)) 7 0 % p = 0
      · simp only [if_pos q, if_neg (show ¬ (1 : Int32) = 0 by decide)]
        exact ih n _ (by omega) (by omega)
      · simp only [if_neg q, if_pos (show (0 : Int32) = 0 from rfl)]
        exact ih n _ (by omega) (by omega)
theorem R_firsts (R : Rel SC SM) (x : Int32) : ∃ r, m_X3_firsts SC x = some r ∧ m_X4_firsts SM x = some r := by
  obtain ⟨p, K, m, z, h1, h2, h3, h4, h5, h6, h7, h8, h9, h10, ⟨c, h11, h12⟩, h13⟩ := R
  have hp := pk_p h1
  have hx := ri_of x
  unfold m_X3_firsts m_X4_firsts
  rw [mf_in32 x 0 1 0 1 rfl rfl (by decide) (by decide), ho_s]
  have ex : x = ji x.toInt := ji_of x
  generalize x.toInt = t at *
  subst ex
  by_cases c1 : t < 0
  · rw [if_pos ((ji_ltl (c := 0) (b := 0) hx rfl (by decide)).mpr c1), if_neg (show ¬ (0 ≤ t ∧ t ≤ 1) by omega), if_pos rfl]
    exact ⟨_, rfl, rfl⟩
  rw [if_neg (fun q => c1 ((ji_ltl (c := 0) (b := 0) hx rfl (by decide)).mp q))]
  by_cases c2 : t ≤ 1
  · rw [if_pos ((ji_lel (c := 1) (b := 1) hx rfl (by decide)).mpr c2), if_pos (show 0 ≤ t ∧ t ≤ 1 by omega), if_neg (show ¬ (1 : Int32) = 0 by decide)]
    have hl := firsts_loop h1 h2 h3 h11 h12 (decide (t = 1)) p.toNat fu 0 (by rw [fu_v]; omega) (by omega)
    rw [show p - ((p.toNat : Nat) : Int) = 0 by omega] at hl
    have : t = 0 ∨ t = 1 := by omega
    rcases this with rfl | rfl
    · exact hl
    · exact hl
  · rw [if_neg (fun q => c2 ((ji_lel (c := 1) (b := 1) hx rfl (by decide)).mp q)), if_neg (show ¬ (0 ≤ t ∧ t ≤ 1) by omega), if_pos rfl]
    exact ⟨_, rfl, rfl⟩
/-! roots of one -/
theorem unit_pow (h : pk p K) {a : Int} (ha : ¬ p ∣ a) : ∀ n : Nat, ¬ p ∣ a ^ n := by
  have hp := pk_p h
  intro n
  induction n with
  | zero =>
    rw [Int.pow_zero]
    intro q
    have := Int.le_of_dvd (by omega) q
    omega
  | succ n ih =>
    rw [Int.pow_succ]
    intro q
    rcases pk_prime h q with z | z
    · exact ih z
    · exact ha z
theorem unit_loop (h : pk p K) (hc : fc SC p K) (hm : fm SM p K) : ∀ (k n : Nat) (u : Int), k < n → k ≤ K - 1 → 0 ≤ u → u < p ^ K → ¬ p ∣ u → ∃ w, 0 ≤ w ∧ w < p ^ K ∧ ¬ p ∣ w ∧ m_X3_unit_25 n SC (jl u) (ji ((K : Int) - k)) = m_X3_unit_59 SC (jl w) ∧ m_X4_unit_37 n SM (jl u) (ji ((K : Int) - k)) = m_X4_unit_70 SM (jl w) := by
  have hp := pk_p h
  have hK := pk_K h
  have q5 := pw_K h (Nat.le_refl K)
  have hle := pw_le hp.1 (show 1 ≤ K by omega)
  rw [pw1] at hle
  intro k
  induction k with
  | zero =>
    intro n u hn _ hu hu2 hd
    obtain ⟨n, rfl⟩ : ∃ t, n = t + 1 := ⟨n - 1, by omega⟩
    unfold m_X3_unit_25 m_X4_unit_37
    rw [hc.2.1, hm.2.1, if_pos ((ji_le ⟨by omega, by omega⟩ ⟨by omega, by omega⟩).mpr (by omega)), if_pos ((ji_le ⟨by omega, by omega⟩ ⟨by omega, by omega⟩).mpr (by omega))]
    exact ⟨u, hu, hu2, hd, rfl, rfl⟩
  | succ k ih =>
    intro n u hn hk hu hu2 hd
    obtain ⟨n, rfl⟩ : ∃ t, n = t + 1 := ⟨n - 1, by omega⟩
    have no : ¬ ji (K : Int) ≤ ji ((K : Int) - (k + 1 : Nat)) := fun q => by have := (ji_le (a := (K : Int)) (b := (K : Int) - (k + 1 : Nat)) ⟨by omega, by omega⟩ ⟨by omega, by omega⟩).mp q; omega
    have ee : ji ((K : Int) - (k + 1 : Nat)) + 1 = ji ((K : Int) - k) := by rw [show (1 : Int32) = ji 1 from rfl, ji_add]; congr 1; omega
    have e1 := cf_toThePrime h hc (Nat.le_refl K) hu hu2
    have e2 := mf_raised (m := p ^ K) (by omega) q5.2 hu hu2 (N := p.toNat) (by omega)
    rw [show ((p.toNat : Nat) : Int) = p by omega] at e2
    have r1 := em_lt (a := u ^ p.toNat) q5.1
    unfold m_X3_unit_25 m_X4_unit_37
    rw [hc.2.1, hm.2.1, hm.1, if_neg no, if_neg no, e1, ho_s, if_neg (mf_oob h (Nat.le_refl K)), mf_pw h hm (Nat.le_refl K), e2, ho_s, ee]
    exact ih n _ (by omega) (by omega) r1.1 r1.2 (unit_mod hp.1 (by omega) (unit_pow h hd _))
theorem R_unit (R : Rel SC SM) (x : Int32) : ∃ r SC1 SM1, m_X3_unit SC x = some (r, SC1) ∧ m_X4_unit SM x = some (r, SM1) ∧ Rel SC1 SM1 := by
  have R0 := R
  obtain ⟨p, K, m, z, R⟩ := R
  obtain ⟨h1, h2, h3, h4, h5, h6, -⟩ := id R
  have hp := pk_p h1
  have hK := pk_K h1
  have hx := ri_of x
  unfold m_X3_unit m_X4_unit
  rw [h2.1, h3.1, show ji p - (1 : Int32) = ji (p - 1) from ji_sub p 1, ji_l (z := p - 1) ⟨by omega, by omega⟩, mf_in32 x 1 (jl (p - 1)) 1 (p - 1) rfl rfl (by decide) ⟨by omega, by omega⟩, ho_s]
  have ex : x = ji x.toInt := ji_of x
  generalize x.toInt = t at *
  subst ex
  by_cases c1 : t < 1
  · rw [if_pos ((ji_ltl (c := 1) (b := 1) hx rfl (by decide)).mpr c1), if_neg (show ¬ (1 ≤ t ∧ t ≤ p - 1) by omega), if_pos rfl]
    exact ⟨_, _, _, rfl, rfl, R0⟩
  rw [if_neg (fun q => c1 ((ji_ltl (c := 1) (b := 1) hx rfl (by decide)).mp q))]
  by_cases c2 : t < p
  · have hle := pw_le hp.1 (show 1 ≤ K by omega)
    rw [pw1] at hle
    have hd : ¬ p ∣ t := fun q => by have := Int.le_of_dvd (by omega) q; omega
    rw [if_pos ((ji_lt hx ⟨by omega, by omega⟩).mpr c2), if_pos (show 1 ≤ t ∧ t ≤ p - 1 by omega), if_neg (show ¬ (1 : Int32) = 0 by decide), h6, ji_l hx]
    obtain ⟨w, w1, w2, w3, w4, w5⟩ := unit_loop h1 h2 h3 (K - 1) fu t (by rw [fu_v]; omega) (Nat.le_refl _) (by omega) (by omega) hd
    rw [show (K : Int) - ((K - 1 : Nat) : Int) = 1 by omega, show ji 1 = (1 : Int32) from rfl] at w4 w5
    rw [w4, w5]
    unfold m_X3_unit_59 m_X4_unit_70
    rw [h2.2.1, h3.2.1]
    obtain ⟨S1, f1, a1, a2, a3, a4, a5, a6, a7⟩ := cs_set (S := SC) (r := 126) (by decide) 0 0 (ji K) (jl w)
    rw [f1, ho_s]
    by_cases c4 : m = 60
    · rw [if_pos (by rw [c4]; rfl), kp_full (R.sc (a7.sc (by omega)) scM.rf) c4 (by decide)]
      exact ⟨_, _, _, rfl, rfl, p, K, m, z, R.sc (a7.sc (by omega)) scM.rf⟩
    · obtain ⟨S2, f2, d1, d2, d3, d4, d5, d6, d7⟩ := ms_lay (S := SM) (c := 60) (by omega) 0 0 (ji K) (jl w)
      rw [if_neg (fun q => c4 (by have := (ji_eql (a := m) (c := 60) (b := 60) ⟨by omega, by omega⟩ rfl (by decide)).mp q; omega)), show (60 : Int32) = ji (60 : Nat) from rfl, f2, ho_s]
      exact kp_all R (a7.sc (by omega)) (d7.sc (by omega)) c4 (k := 0) (v := 0) (n := K) (u := w) (a := 0) (b := 1) ⟨⟨a1, a2, a3, a4, fun qq => by omega⟩, ⟨d1, d2, d3, d4, fun qq => by omega⟩, ⟨by omega, by omega, by omega, by omega, Nat.le_refl K, w1, w2, fun qq => by omega, fun _ _ => w3⟩⟩ ⟨by omega, by omega⟩ (by omega)
  · rw [if_neg (fun q => c2 ((ji_lt hx ⟨by omega, by omega⟩).mp q)), if_neg (show ¬ (1 ≤ t ∧ t ≤ p - 1) by omega), if_pos rfl]
    exact ⟨_, _, _, rfl, rfl, R0⟩
end
