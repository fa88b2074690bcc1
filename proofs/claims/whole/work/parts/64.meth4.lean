section
variable {SC SM : St}
theorem cf8_at {S : St} {r : Nat} {c : Nat → Int} (h : cf8 (S.1 r) c) {k : Nat} (hk : k < 8) : (S.1 r k).toInt64 = jl (c k) ∧ (c k).natAbs ≤ 1000000 := by
  obtain ⟨h1, h2, h3⟩ := h k hk
  exact ⟨by rw [h1, ji_l ⟨by omega, by omega⟩], by omega⟩
/-- a whole number laid: a RATIO -/
theorem whole_both {SC SM : St} {p : Int} {K rt ct : Nat} (h : pk p K) (hc : fc SC p K) (hm : fm SM p K) (hrt : kc rt = 2) (hct : ct < 64) {w : Int} (bw : w.natAbs ≤ 1000000) : ∃ SC1 SM1 v n u a b, m_X0_setFraction SC (jl w) (1 : Int64) rt = some SC1 ∧ m_X4_layFraction SM (ji ct) (jl w) (1 : Int64) = some SM1 ∧ bth p K SC1 SM1 rt ct 1 v n u a b ∧ frc SC SC1 rt ∧ frm SM SM1 ct ∧ -60 ≤ v ∧ v ≤ 60 := by
  obtain ⟨S1, S2, k, v, n, u, a, b, e1, e2, e3, e4, e5, e6, e7, e8, e9⟩ := frac_both h hc hm hrt hct (up := w) (low := 1) (by decide) (by omega) (by decide)
  have hr : red w 1 w 1 := ⟨by omega, by simp, by omega⟩
  obtain ⟨q1, q2⟩ := red_uniq (by decide) e8 hr
  subst q1 q2
  have hk : k = 1 := by rw [e9, if_pos ⟨by omega, by omega⟩]
  subst hk
  have hv := e3.2.2.2.2.2.2.2.2.2.1 rfl
  exact ⟨S1, S2, v, n, u, a, 1, e1, e2, e3, e4, e5, hv.2.2.2.2.2.1, hv.2.2.2.2.2.2.1⟩
theorem at_loop {p : Int} {K m : Nat} {z : Int} (R : RelP p K m z SC SM) (hm : m ≠ 60) {i : Nat} (hi : i < m) : ∀ (q n : Nat), q < n → q ≤ 7 → ∀ (SC1 SM1 : St), scC SC SC1 → scM SM SM1 → ∀ (k v : Int) (ns : Nat) (u a b : Int), bth p K SC1 SM1 126 60 k v ns u a b → -60 ≤ v → v ≤ 60 → k ≠ 2 → ∃ r SC2 SM2, m_X3_at_48 n SC1 (6 + 2 * i) (ji ((q : Int) - 1)) = some (r, SC2) ∧ m_X4_at_41 n SM1 (ji i) (ji ((q : Int) - 1)) = some (r, SM2) ∧ Rel SC2 SM2 := by
  obtain ⟨h1, h2, h3, h4, h5, h6, h7, h8, h9, h10, ⟨c, h11, h12⟩, h13⟩ := id R
  have hK := pk_K h1
  have hi64 : i < 64 := by omega
  have hrx := kcV (show i < 63 by omega)
  intro q
  induction q with
  | zero =>
    intro n hn _ SC1 SM1 sC sM k v ns u a b B bv1 bv2 k2
    obtain ⟨n, rfl⟩ : ∃ t, n = t + 1 := ⟨n - 1, by omega⟩
    unfold m_X3_at_48 m_X4_at_41 m_X3_at_140 m_X4_at_102
    have c0 : ji (((0 : Nat) : Int) - 1) < 0 := by decide
    simp only [if_pos c0]
    exact kp_all R sC sM hm B ⟨bv1, bv2⟩ k2
  | succ q ih =>
    intro n hn hq SC1 SM1 sC sM k v ns u a b B bv1 bv2 k2
    obtain ⟨n, rfl⟩ : ∃ t, n = t + 1 := ⟨n - 1, by omega⟩
    obtain ⟨ky, vy, ny, uy, ay, by_, Y, yv1, yv2, -⟩ := h13 i hi
    have Y := Y.sc (show i < 60 by omega) sC sM
    obtain ⟨S2, T2, kk, vv, nn, uu, aa, bb, g1, g2, g3, g4, g5, g6, g7, g8⟩ := cmb_both h1 (sC.fc h2) (sM.fm h3) (rx := 126) (by decide) hrx (rt := 128) (by decide) (cx := 60) (by omega) hi64 (ct := 61) (by omega) B Y ⟨bv1, bv2⟩ ⟨yv1, yv2⟩ (way := 2) (by omega) (by omega) (fun qq => by omega)
    have sC2 := sC.tr (g4.sc (by omega))
    have sM2 := sM.tr (g5.sc (by omega))
    have cC : cf8 (S2.1 5) c := by rw [(sC2 5 (by omega)).1]; exact h11
    have cM : cf8 (T2.1 10) c := fun j hj => by rw [(sM2 10 j (by omega)).1]; exact h12 j hj
    obtain ⟨p1, p2⟩ := cf8_at cC (show q < 8 by omega)
    obtain ⟨p3, -⟩ := cf8_at cM (show q < 8 by omega)
    have rq : ri ((q : Int)) := ⟨by omega, by omega⟩
    unfold m_X3_at_48 m_X4_at_41
    rw [show (((q + 1 : Nat) : Int) - 1) = (q : Int) by omega]
    have c0 : ¬ ji (q : Int) < 0 := fun qq => by have := (ji_ltl (c := 0) (b := 0) rq rfl (by decide)).mp qq; omega
    have no : ¬ oob (ji (q : Int)) 8 := by rw [ji_oob rq]; omega
    simp only [if_neg c0, if_neg no]
    rw [show (2 : Int32) = ji 2 from rfl, g1, ho_s, show (60 : Int32) = ji (60 : Nat) from rfl, show (61 : Int32) = ji (61 : Nat) from rfl, g2, bd2_s, cs_beyond (by decide) g3.1.2.1 ⟨by omega, by omega⟩, ho_s, ji_nat rq, show ((q : Int)).toNat = q by omega, p1, p3]
    obtain ⟨S6, T4, v3, n3, u3, a3, b3, w1, w2, w3, w4, w5, w6, w7⟩ := whole_both h1 (sC2.fc h2) (sM2.fm h3) (rt := 130) (ct := 62) (by decide) (by omega) (w := c q) p2
    have sC3 := sC2.tr (w4.sc (by omega))
    have sM3 := sM2.tr (w5.sc (by omega))
    rw [show (62 : Int32) = ji (62 : Nat) from rfl, w2, ho_s]
    unfold m_X4_at_89
    by_cases c5 : vv < -60 ∨ 60 < vv
    · simp only [if_pos c5]
      rw [if_neg (by decide), if_neg (by decide), if_neg (by decide)]
      exact ⟨_, _, _, rfl, rfl, p, K, m, z, R.sc sC2 sM3⟩
    · simp only [if_neg c5]
      rw [if_pos (by decide), w1, ho_s, if_pos (by decide)]
      -- what stands between is untouched
      have G3 : bth p K S6 T4 128 61 kk vv nn uu aa bb := g3.to (w4.1 128 (by omega)).1 (w4.1 128 (by omega)).2 (fun t _ _ => w5 t 61 (by omega))
      obtain ⟨S7, T6, k7, v7, n7, u7, a7, b7, x1, x2, x3, x4, x5, x6, x7, x8⟩ := cmb_both h1 (sC3.fc h2) (sM3.fm h3) (rx := 128) (by decide) (ry := 130) (by decide) (rt := 126) (by decide) (cx := 61) (by omega) (cy := 62) (by omega) (ct := 60) (by omega) G3 w3 ⟨by omega, by omega⟩ ⟨w6, w7⟩ (way := 0) (by omega) (by omega) (fun qq => by omega)
      have sC4 := sC3.tr (x4.sc (by omega))
      have sM4 := sM3.tr (x5.sc (by omega))
      rw [show (0 : Int32) = ji 0 from rfl, x1, ho_s, x2, bd2_s, cs_beyond (by decide) x3.1.2.1 ⟨by omega, by omega⟩, ho_s]
      by_cases c6 : v7 < -60 ∨ 60 < v7
      · simp only [if_pos c6]
        rw [if_neg (by decide), if_neg (by decide)]
        exact ⟨_, _, _, rfl, rfl, p, K, m, z, R.sc sC4 sM4⟩
      · simp only [if_neg c6]
        rw [if_pos (by decide), if_pos (by decide), show (-1 : Int32) = ji (-1) from rfl, ji_add, show (q : Int) + -1 = q - 1 by omega]
        exact ih n (by omega) (by omega) S7 T6 sC4 sM4 k7 v7 n7 u7 a7 b7 x3 (by omega) (by omega) (by omega)
theorem R_at (R : Rel SC SM) (x : Int32) : ∃ r SC1 SM1, m_X3_at SC x = some (r, SC1) ∧ m_X4_at SM x = some (r, SM1) ∧ Rel SC1 SM1 := by
  have R0 := R
  obtain ⟨p, K, m, z, R⟩ := R
  obtain ⟨h1, h2, h3, h4, h5, h6, h7, h8, h9, h10, ⟨c, h11, h12⟩, h13⟩ := id R
  unfold m_X3_at m_X4_at
  rcases fnd R x with ⟨e1, e2⟩ | ⟨i, hi, rfl, e1, e2⟩
  · rw [e1, e2, ho_s, ho_s, if_pos rfl]; exact ⟨_, _, _, rfl, rfl, R0⟩
  · rw [e1, e2, ho_s, ho_s, if_neg (show ¬ (1 : Int32) = 0 by decide)]
    dsimp only
    rw [if_pos (kcV (by omega)), h5, h6]
    by_cases c4 : m = 60
    · rw [if_neg (fun q => by have := (ji_ltl (a := m) (c := 60) (b := 60) ⟨by omega, by omega⟩ rfl (by decide)).mp q; omega), if_pos (by rw [c4]; rfl)]
      exact ⟨_, _, _, rfl, rfl, R0⟩
    · obtain ⟨p1, p2⟩ := cf8_at h11 (show 7 < 8 by omega)
      obtain ⟨p3, -⟩ := cf8_at h12 (show 7 < 8 by omega)
      obtain ⟨S6, T4, v3, n3, u3, a3, b3, w1, w2, w3, w4, w5, w6, w7⟩ := whole_both h1 h2 h3 (rt := 126) (ct := 60) (by decide) (by omega) (w := c 7) p2
      rw [if_pos ((ji_ltl (a := m) (c := 60) (b := 60) ⟨by omega, by omega⟩ rfl (by decide)).mpr (by omega)), if_neg (show ¬ ji (m : Int) = 60 from fun q => c4 (by have := (ji_eql (a := m) (c := 60) (b := 60) ⟨by omega, by omega⟩ rfl (by decide)).mp q; omega)), if_neg (show ¬ oob (7 : Int32) 8 by decide), if_neg (show ¬ oob (7 : Int32) 8 by decide), show (7 : Int32).toNatClampNeg = 7 from by decide, p1, p3, w1, ho_s, show (60 : Int32) = ji (60 : Nat) from rfl, w2, ho_s]
      have := at_loop R c4 hi 7 fu (by rw [fu_v]; omega) (by omega) S6 T4 (w4.sc (by omega)) (w5.sc (by omega)) 1 v3 n3 u3 a3 b3 w3 w6 w7 (by omega)
      exact this
end
