section
variable {SC SM : St}
theorem R_number (R : Rel SC SM) (x : Int32) (y : Int64) (w : Int32) : ∃ r SC1 SM1, m_X3_number SC x y w = some (r, SC1) ∧ m_X4_number SM x y w = some (r, SM1) ∧ Rel SC1 SM1 := by
  have R0 := R
  obtain ⟨p, K, m, z, R⟩ := R
  obtain ⟨h1, h2, h3, h4, h5, h6, -⟩ := id R
  have hp := pk_p h1
  have hK := pk_K h1
  have hx := ri_of x
  have hw := ri_of w
  have hy := rl_of y
  unfold m_X3_number m_X4_number
  rw [h3.2.1, ji_l (z := (K : Int)) ⟨by omega, by omega⟩, mf_in32 x (-60) 60 (-60) 60 rfl rfl (by decide) (by decide), mf_in32 w 1 (jl K) 1 K rfl rfl (by decide) ⟨by omega, by omega⟩, ho_s, ho_s]
  have ex : x = ji x.toInt := ji_of x
  have ew : w = ji w.toInt := ji_of w
  have ey : y = jl y.toInt := jl_of y
  generalize x.toInt = v at *
  generalize w.toInt = n at *
  generalize y.toInt = b at *
  subst ex ew ey
  rw [show (60 : Int32) = ji 60 from rfl, cs_tooGreat hx (by decide) (by decide), ho_s]
  by_cases c1 : -60 ≤ v ∧ v ≤ 60
  · rw [if_pos c1, if_pos c1, if_pos rfl, if_neg (show ¬ (1 : Int32) = 0 by decide)]
    by_cases c2 : b < 0
    · have c2' := (jl_ltl (c := 0) (b := 0) hy rfl (by decide)).mpr c2
      simp only [if_pos c2']
      exact ⟨_, _, _, rfl, rfl, R0⟩
    · have c2' := fun q => c2 ((jl_ltl (c := 0) (b := 0) hy rfl (by decide)).mp q)
      simp only [if_neg c2']
      have en : m_X3_isNoSure SC (ji n) = some (if 1 ≤ n ∧ n ≤ K then 0 else 1) := by
        unfold m_X3_isNoSure m_X3_isNoSure_16
        rw [h2.2.1]
        by_cases q1 : n < 1
        · rw [if_pos ((ji_ltl (c := 1) (b := 1) hw rfl (by decide)).mpr q1), if_neg (by omega)]
        · rw [if_neg (fun q => q1 ((ji_ltl (c := 1) (b := 1) hw rfl (by decide)).mp q))]
          by_cases q2 : n ≤ K
          · rw [if_pos ((ji_le hw ⟨by omega, by omega⟩).mpr q2), if_pos (by omega)]
          · rw [if_neg (fun q => q2 ((ji_le hw ⟨by omega, by omega⟩).mp q)), if_neg (by omega)]
      rw [en, ho_s]
      by_cases c3 : 1 ≤ n ∧ n ≤ K
      · obtain ⟨N, rfl⟩ : ∃ N : Nat, n = N := ⟨n.toNat, by omega⟩
        have hN : N ≤ K := by omega
        have b1 := pw_K h1 hN
        have w1 := em_lt (a := b) b1.1
        rw [if_pos c3, if_pos rfl, if_pos c3, if_neg (show ¬ (1 : Int32) = 0 by decide), cf_pw h1 h2 hN, ho_s, if_neg (jl_ne0 ⟨by omega, by omega⟩ (by omega)), jl_mod hy (by omega) ⟨by omega, by omega⟩]
        obtain ⟨SC1, SM1, v1, n1, u1, g1, g2, g3, g4, g5, g6, g7, g8, g9⟩ := fg_both h1 h2 h3 (r := 126) (c := 60) (by decide) (by omega) (v := v) (k := 0) hN w1.1 w1.2 ⟨by omega, by omega⟩ (by omega) (by omega) (by omega)
        rw [g1, ho_s, h6]
        by_cases c4 : m = 60
        · rw [if_pos (by rw [c4]; rfl), kp_full (R.sc (g6.sc (by omega)) scM.rf) c4 (by decide)]
          exact ⟨_, _, _, rfl, rfl, p, K, m, z, R.sc (g6.sc (by omega)) scM.rf⟩
        · rw [if_neg (fun q => c4 (by have := (ji_eq (a := m) (b := 60) ⟨by omega, by omega⟩ (by decide)).mp q; omega)), if_neg (mf_oob h1 hN), mf_pw h1 h3 hN, if_neg (jl_ne0 ⟨by omega, by omega⟩ (by omega)), jl_mod hy (by omega) ⟨by omega, by omega⟩, show ji 60 = ji (60 : Nat) from rfl, show (0 : Int32) = ji 0 from rfl, g2, ho_s, ms_beyond (by omega) g4.2.1 ⟨by omega, by omega⟩, ho_s]
          have Rs := R.sc (g6.sc (by omega)) (g7.sc (by omega))
          by_cases c5 : v1 < -60 ∨ 60 < v1
          · rw [if_pos c5, if_neg (by decide), kp_beyond Rs (by omega) (by decide) g3.2.1 ⟨by omega, by omega⟩ c5]
            exact ⟨_, _, _, rfl, rfl, p, K, m, z, Rs⟩
          · rw [if_neg c5, if_pos (by decide)]
            exact kp_all R (g6.sc (by omega)) (g7.sc (by omega)) c4 ⟨g3, g4, g5⟩ ⟨by omega, by omega⟩ (by omega)
      · rw [if_neg c3, if_neg (show ¬ (1 : Int32) = 0 by decide), if_neg c3, if_pos rfl]
        exact ⟨_, _, _, rfl, rfl, R0⟩
  · rw [if_neg c1, if_neg c1, if_neg (show ¬ (1 : Int32) = 0 by decide), if_pos rfl]
    exact ⟨_, _, _, rfl, rfl, R0⟩
theorem R_shadow (R : Rel SC SM) (x w : Int32) : ∃ r SC1 SM1, m_X3_shadow SC x w = some (r, SC1) ∧ m_X4_shadow SM x w = some (r, SM1) ∧ Rel SC1 SM1 := by
  have R0 := R
  obtain ⟨p, K, m, z, R⟩ := R
  obtain ⟨h1, h2, h3, h4, h5, h6, -⟩ := id R
  have hp := pk_p h1
  have hK := pk_K h1
  unfold m_X3_shadow m_X4_shadow
  rcases fnd R x with ⟨e1, e2⟩ | ⟨i, hi, rfl, e1, e2⟩
  · rw [e1, e2, ho_s, ho_s, if_pos rfl]; exact ⟨_, _, _, rfl, rfl, R0⟩
  · obtain ⟨k, v, n, u, a, b, B, bv1, bv2, -⟩ := R.2.2.2.2.2.2.2.2.2.2.2 i hi
    obtain ⟨r1, r2, r3, r4, r5, r6⟩ := vok_r h1 B.2.2
    have hw := ri_of w
    have hi64 : i < 64 := by omega
    rw [e1, e2, ho_s, ho_s, if_neg (show ¬ (1 : Int32) = 0 by decide)]
    simp only [if_neg (oobc hi64), natc hi64]
    rw [if_pos (kcV (by omega)), B.1.2.2.1, B.2.1.2.2.1, ji_l r3, mf_in32 w 0 (jl n) 0 n rfl rfl (by decide) ⟨by omega, by omega⟩, ho_s]
    have ew : w = ji w.toInt := ji_of w
    generalize w.toInt = t at *
    subst ew
    by_cases c1 : t < 0
    · rw [if_pos ((ji_ltl (c := 0) (b := 0) hw rfl (by decide)).mpr c1), if_neg (show ¬ (0 ≤ t ∧ t ≤ (n : Int)) by omega), if_pos rfl]
      exact ⟨_, _, _, rfl, rfl, R0⟩
    rw [if_neg (fun q => c1 ((ji_ltl (c := 0) (b := 0) hw rfl (by decide)).mp q))]
    by_cases c2 : t ≤ n
    · have hrx := kcV (show i < 63 by omega)
      rw [if_pos ((ji_le hw r3).mpr c2), if_pos (show 0 ≤ t ∧ t ≤ (n : Int) by omega), if_neg (show ¬ (1 : Int32) = 0 by decide), cs_nought h1 hrx B.1 B.2.2, ms_nought h1 hi64 B.2.1 B.2.2, ho_s, ho_s]
      by_cases q : ngt k n
      · simp only [if_pos q, if_neg (show ¬ (1 : Int32) = 0 by decide)]; exact ⟨_, _, _, rfl, rfl, R0⟩
      simp only [if_neg q]
      rw [if_pos trivial, if_pos trivial, cs_zero h1 hrx B.1 B.2.2, ms_zero h1 hi64 B.2.1 B.2.2, ho_s, ho_s]
      by_cases q2 : zro k a
      · simp only [if_pos q2, if_neg (show ¬ (1 : Int32) = 0 by decide)]; exact ⟨_, _, _, rfl, rfl, R0⟩
      simp only [if_neg q2]
      obtain ⟨N, rfl⟩ : ∃ N : Nat, t = N := ⟨t.toNat, by omega⟩
      have hnK := B.2.2.2.2.2.2.1
      have hN : N ≤ K := by omega
      have b1 := pw_K h1 hN
      have u0 := B.2.2.2.2.2.2.2.1
      have w1 := em_lt (a := u) b1.1
      rw [if_pos trivial, if_pos trivial, cf_pw h1 h2 hN, ho_s, if_neg (jl_ne0 ⟨by omega, by omega⟩ (by omega)), B.1.2.1, B.1.2.2.2.1, jl_mod r4 u0 ⟨by omega, by omega⟩, h6, if_neg (mf_oob h1 hN), mf_pw h1 h3 hN, if_neg (jl_ne0 ⟨by omega, by omega⟩ (by omega)), B.2.1.2.1, B.2.1.2.2.2.1, jl_mod r4 u0 ⟨by omega, by omega⟩]
      obtain ⟨S1, f1, a1, a2, a3, a4, a5, a6, a7⟩ := cs_set (S := SC) (r := 126) (by decide) 3 (ji v) (ji N) (jl (u % p ^ N))
      rw [f1, ho_s]
      by_cases c4 : m = 60
      · rw [if_pos (by rw [c4]; rfl), kp_full (R.sc (a7.sc (by omega)) scM.rf) c4 (by decide)]
        exact ⟨_, _, _, rfl, rfl, p, K, m, z, R.sc (a7.sc (by omega)) scM.rf⟩
      · obtain ⟨S2, f2, d1, d2, d3, d4, d5, d6, d7⟩ := ms_lay (S := SM) (c := 60) (by omega) 3 (ji v) (ji N) (jl (u % p ^ N))
        rw [if_neg (fun q => c4 (by have := (ji_eql (a := m) (c := 60) (b := 60) ⟨by omega, by omega⟩ rfl (by decide)).mp q; omega)), show (60 : Int32) = ji (60 : Nat) from rfl, f2, ho_s]
        have hu : ¬ p ∣ u := by
          by_cases qk : k = 1
          · exact (B.2.2.2.2.2.2.2.2.2.1 qk).2.2.2.2.2.2.2.2 (fun zz => q2 ⟨qk, zz⟩)
          · exact B.2.2.2.2.2.2.2.2.2.2 qk (fun zz => q ⟨qk, zz⟩)
        exact kp_all R (a7.sc (by omega)) (d7.sc (by omega)) c4 (k := 3) (v := v) (n := N) (u := u % p ^ N) (a := 0) (b := 1) ⟨⟨a1, a2, a3, a4, fun qq => by omega⟩, ⟨d1, d2, d3, d4, fun qq => by omega⟩, ⟨by omega, by omega, by omega, by omega, hN, w1.1, w1.2, fun qq => by omega, fun _ hN0 => unit_mod hp.1 (by omega) hu⟩⟩ ⟨bv1, bv2⟩ (by omega)
    · rw [if_neg (fun q => c2 ((ji_le hw r3).mp q)), if_neg (show ¬ (0 ≤ t ∧ t ≤ (n : Int)) by omega), if_pos rfl]
      exact ⟨_, _, _, rfl, rfl, R0⟩
end
