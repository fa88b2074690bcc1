section
variable {SC SM : St} {p : Int} {K : Nat}
theorem frac_both2 (h : pk p K) (hc : fc SC p K) (hm : fm SM p K) {rt ct : Nat} (hrt : kc rt = 2) (hct : ct < 64) {up low up2 low2 x y : Int} (h0 : low ≠ 0) (bu : up.natAbs ≤ 2000000000000000000) (bl : low.natAbs ≤ 2000000000000000000) (h02 : low2 ≠ 0) (bu2 : up2.natAbs ≤ 2000000000000000000) (bl2 : low2.natAbs ≤ 2000000000000000000) (d6 : red up low x y) (d7 : red up2 low2 x y) : ∃ SC1 SM1 v u, m_X0_setFraction SC (jl up) (jl low) rt = some SC1 ∧ m_X4_layFraction SM (ji ct) (jl up2) (jl low2) = some SM1 ∧ bth p K SC1 SM1 rt ct (if fits9 x y then 1 else 0) v K u x y ∧ frc SC SC1 rt ∧ frm SM SM1 ct := by
  obtain ⟨S1, v, u, e1, e2, e3, e4, e5, e6⟩ := cs_frac h hc hrt h0 bu bl d6
  obtain ⟨S2, v2, u2, f1, f2, f3, f4⟩ := ms_frac h hm hct h02 bu2 bl2 d7
  obtain ⟨q1, q2⟩ := frv_uniq h e3 f3
  subst q1 q2
  exact ⟨S1, S2, v, u, e1, f1, ⟨e2, f2, fr_vok h d6 e3 e5 e6⟩, e4, f4⟩
/-- a NUMBER that isn't a RATIO, guessed by both -/
theorem guess_both {m : Nat} {z : Int} (R : RelP p K m z SC SM) {i : Nat} (hi : i < m) {k v u a b : Int} {n : Nat} (B : bth p K SC SM (6 + 2 * i) i k v n u a b) (bv1 : -60 ≤ v) (bv2 : v ≤ 60) (hn1 : 1 ≤ n) (hu : ¬ p ∣ u) {bnd : Int} (hb : 1 ≤ bnd) (hb2 : bnd ≤ 1000000000) : ∃ r SC1 SM1, bd2 (m_X3_fractionWithin SC (6 + 2 * i) (ji bnd)) (fun r_9 S_9 => m_X3_guess_84 S_9 r_9) = some (r, SC1) ∧ m_X4_guess_139 SM (ji i) (ji bnd) (ji v) (ji (v.natAbs : Nat)) = some (r, SM1) ∧ Rel SC1 SM1 := by
  obtain ⟨h1, h2, h3, h4, h5, h6, -⟩ := id R
  have hp := pk_p h1
  have hK := pk_K h1
  obtain ⟨r1, r2, r3, r4, r5, r6⟩ := vok_r h1 B.2.2
  have hnK := B.2.2.2.2.2.2.1
  have u0 := B.2.2.2.2.2.2.2.1
  have u1 := B.2.2.2.2.2.2.2.2.1
  have hi64 : i < 64 := by omega
  have hrx := kcV (show i < 63 by omega)
  have b1 := pw_K h1 hnK
  have R0 : Rel SC SM := ⟨p, K, m, z, R⟩
  obtain ⟨A, hA⟩ : ∃ A, A = p ^ v.toNat := ⟨_, rfl⟩
  obtain ⟨C, hC⟩ : ∃ C, C = p ^ (-v).toNat := ⟨_, rfl⟩
  have Ap : 0 < A := by rw [hA]; exact pw_pos hp.1 _
  have Cp : 0 < C := by rw [hC]; exact pw_pos hp.1 _
  have hAC : (v ≤ 0 → A = 1) ∧ (0 ≤ v → C = 1) ∧ (0 ≤ v → A = p ^ v.natAbs) ∧ (v ≤ 0 → C = p ^ v.natAbs) := by
    refine ⟨fun q => ?_, fun q => ?_, fun q => ?_, fun q => ?_⟩
    · rw [hA, show v.toNat = 0 by omega, Int.pow_zero]
    · rw [hC, show (-v).toNat = 0 by omega, Int.pow_zero]
    · rw [hA, show v.toNat = v.natAbs by omega]
    · rw [hC, show (-v).toNat = v.natAbs by omega]
  have ec : m_X3_fractionWithin SC (6 + 2 * i) (ji bnd) = (if jl (bnd / A) < (1 : Int64) then (some ((0 : Int32), SC)) else (if (1 : Int64) ≤ jl (bnd / C) then (m_X3_fractionWithin_73 fu SC (6 + 2 * i) (jl (bnd / A)) (jl (bnd / C)) (jl (p ^ n)) (jl u) (0 : Int64) (1 : Int64) (0 : Int32)) else (some ((0 : Int32), SC)))) := by
    unfold m_X3_fractionWithin
    rw [if_pos hrx, B.1.2.1, B.1.2.2.1, B.1.2.2.2.1, ji_neg, ji_l ⟨by omega, by omega⟩, cf_shift h1 h2 (by omega) (by omega) (by omega) (by omega), ho_s, cf_shift h1 h2 (by omega) (by omega) (by omega) (by omega), ho_s, cf_pw h1 h2 hnK, ho_s, ← hA, ← hC]
  have dA : 0 ≤ bnd / A ∧ bnd / A ≤ bnd := ⟨Int.ediv_nonneg (by omega) (by omega), Int.ediv_le_self _ (by omega)⟩
  have dC : 0 ≤ bnd / C ∧ bnd / C ≤ bnd := ⟨Int.ediv_nonneg (by omega) (by omega), Int.ediv_le_self _ (by omega)⟩
  rw [ec]
  unfold m_X4_guess_139
  have eb := mg_by h1 h3 (x1 := ji i) (x3 := ji v) hb hb2 (t := v.natAbs) (by omega) v.natAbs fu 0 (by omega) (by rw [fu_v]; omega) (by rw [Int.pow_zero]; exact hb)
  rw [Int.pow_zero, show jl 1 = 1 from rfl, show ji ((0 : Nat) : Int) = 0 from rfl] at eb
  rw [eb]
  have none_ : ∀ Q : Option (Int32 × St), Q = some (0, SC) → bd2 Q (fun r_9 S_9 => m_X3_guess_84 S_9 r_9) = some (-1, SC) := by
    intro Q hQ; rw [hQ, bd2_s]; unfold m_X3_guess_84; rw [if_pos rfl]
  by_cases c : p ^ v.natAbs ≤ bnd
  · have Ab : A ≤ bnd := by
      by_cases q : 0 ≤ v
      · rw [hAC.2.2.1 q]; exact c
      · rw [hAC.1 (by omega)]; exact hb
    have Cb : C ≤ bnd := by
      by_cases q : v ≤ 0
      · rw [hAC.2.2.2 q]; exact c
      · rw [hAC.2.1 (by omega)]; exact hb
    have m1 : 1 ≤ bnd / A := Int.le_ediv_of_mul_le Ap (by omega)
    have m2 : 1 ≤ bnd / C := Int.le_ediv_of_mul_le Cp (by omega)
    rw [if_pos c, if_neg (fun q => by have := (jl_ltl (a := bnd / A) (c := 1) (b := 1) ⟨by omega, by omega⟩ rfl (by decide)).mp q; omega), if_pos ((jl_ler (a := bnd / C) (c := 1) (b := 1) ⟨by omega, by omega⟩ rfl (by decide)).mpr m2)]
    obtain ⟨Rr, T, hE⟩ := eu_some m1 90 91 (p ^ n) u 0 1 u0 (by have := fb90; omega) (by omega)
    have hinv : einv (p ^ n) u (p ^ n) u 0 1 := ⟨u0, u1, by omega, ⟨1, 1, 0, Or.inl rfl, by omega, by omega, by omega, by omega, by rw [Int.mul_one, Int.mul_zero, Int.add_zero]⟩, ⟨0, by omega⟩, ⟨1, by omega⟩⟩
    obtain ⟨f1, f2, f3, f4, f5⟩ := eu_inv (by omega) 91 _ _ _ _ Rr T hinv hE
    have f4' : T.natAbs ≤ 1000000000000000000 := by omega
    rw [show (0 : Int64) = jl 0 from rfl, show (1 : Int64) = jl 1 from rfl, show (0 : Int32) = ji 0 from rfl, cg_loop (P := p ^ n) (u := u) b1.2 (by omega) (by omega) 91 fu 0 _ _ _ _ hinv hE (by rw [fu_v]; omega) (by omega) (by omega)]
    -- the reference's way there
    have e178 : m_X4_guess_178 SM (ji i) (ji bnd) (ji v) (jl (p ^ v.natAbs)) = m_X4_guess_227 SM (ji v) (jl (p ^ v.natAbs)) (jl (bnd / C)) (jl (bnd / A)) (ji n) (jl u) := by
      have P := pw_pos hp.1 v.natAbs
      unfold m_X4_guess_178 m_X4_guess_213
      simp only [if_neg (oobc hi64), natc hi64]
      rw [B.2.1.2.2.1, B.2.1.2.2.2.1, ji_l ⟨by omega, by omega⟩, if_neg (fun q => by have := (jl_lt (a := bnd) (b := p ^ v.natAbs) ⟨by omega, by omega⟩ ⟨by omega, by omega⟩).mp q; omega), jl_div ⟨by omega, by omega⟩ (by omega) ⟨by omega, by omega⟩]
      have nz : ¬ jl (p ^ v.natAbs) = 0 := jl_ne0 ⟨by omega, by omega⟩ (by omega)
      rcases Int.lt_trichotomy v 0 with q | q | q
      · have n1 : ji v ≤ 0 := (ji_lel (c := 0) (b := 0) r2 rfl (by decide)).mpr (by omega)
        have n2 : ¬ (0 : Int32) ≤ ji v := fun zz => by have := (ji_ler (c := 0) (b := 0) r2 rfl (by decide)).mp zz; omega
        rw [if_pos n1, if_neg n2, if_neg nz, hAC.1 (by omega), hAC.2.2.2 (by omega), Int.ediv_one]
      · have n1 : ji v ≤ 0 := (ji_lel (c := 0) (b := 0) r2 rfl (by decide)).mpr (by omega)
        have n2 : (0 : Int32) ≤ ji v := (ji_ler (c := 0) (b := 0) r2 rfl (by decide)).mpr (by omega)
        rw [if_pos n1, if_pos n2, hAC.1 (by omega), hAC.2.1 (by omega), Int.ediv_one]
      · have n1 : ¬ ji v ≤ 0 := fun zz => by have := (ji_lel (c := 0) (b := 0) r2 rfl (by decide)).mp zz; omega
        have n2 : (0 : Int32) ≤ ji v := (ji_ler (c := 0) (b := 0) r2 rfl (by decide)).mpr (by omega)
        rw [if_neg n1, if_pos n2, if_neg nz, hAC.2.1 (by omega), hAC.2.2.1 (by omega), Int.ediv_one]
    have eg : m_X4_guessed SM (jl u) (ji n) (jl (bnd / A)) (jl (bnd / C)) = m_X4_guessed_71 SM (jl (bnd / C)) (jl Rr) (jl T) := by
      unfold m_X4_guessed
      rw [if_neg (mf_oob h1 hnK), mf_pw h1 h3 hnK, show (0 : Int64) = jl 0 from rfl, show (1 : Int64) = jl 1 from rfl, mg_loop (P := p ^ n) (u := u) b1.2 (by omega) (by omega) 91 fu _ _ _ _ hinv hE (by rw [fu_v]; omega)]
    rw [e178]
    unfold m_X4_guess_227
    rw [eg]
    have mT := em_lt (a := T) (show 0 < p by omega)
    have T0 : ¬ jl T = 0 := jl_ne0 ⟨by omega, by omega⟩ f3
    have cend : m_X3_fractionWithin_136 SC (6 + 2 * i) (jl (bnd / C)) (jl Rr) (jl T) = (if jl (bnd / C) < jl (T.natAbs : Nat) then (some ((0 : Int32), SC)) else if ji (T % p) = 0 then (some ((0 : Int32), SC)) else ((m_X1_power SC (ji v)).bind (fun r_5 => (m_X1_power SC (ji (-v))).bind (fun r_6 => (m_X0_setFraction SC (jl Rr * r_5) (jl T * r_6) 126).bind (fun S_7 => some ((1 : Int32), S_7)))))) := by
      unfold m_X3_fractionWithin_136
      rw [if_neg T0, jl_abs ⟨by omega, by omega⟩, cf_lowest h1 h2 ⟨by omega, by omega⟩ (by omega), ho_s, B.1.2.1, ji_neg]
    rw [cend]
    rcases mg_end h1 h3 f1 (by omega) f3 f4' dC.1 (by omega) with ⟨no, S1, g1, g2⟩ | ⟨yes, S1, d, x, y, g1, g2, g3, g4, g5, g6, g7, g8, g9, g10⟩
    · rw [g1, bd2_s, if_pos rfl]
      have RS : Rel SC S1 := ⟨p, K, m, z, R.scr scC.rf g2.scR⟩
      by_cases c1 : bnd / C < (T.natAbs : Int)
      · rw [if_pos ((jl_lt ⟨by omega, by omega⟩ ⟨by omega, by omega⟩).mpr c1), none_ _ rfl]
        exact ⟨_, _, _, rfl, rfl, RS⟩
      · have pT : p ∣ T := by
          rcases no with q | q | q
          · -- then the power of the prime is in T
            rw [q] at f5
            have : p ^ n ∣ T * u := by
              have := Int.dvd_neg.mpr f5
              rwa [show -(0 - T * u) = T * u by omega] at this
            exact Int.dvd_trans (dv_p hp.1 hn1) (uc h1 hu this)
          · omega
          · exact q
        rw [if_neg (fun q => c1 ((jl_lt ⟨by omega, by omega⟩ ⟨by omega, by omega⟩).mp q)), if_pos (by rw [Int.emod_eq_zero_of_dvd pT]; rfl), none_ _ rfl]
        exact ⟨_, _, _, rfl, rfl, RS⟩
    · have c1 : ¬ bnd / C < (T.natAbs : Int) := fun q => yes (Or.inr (Or.inl q))
      have c2 : T % p ≠ 0 := fun q => yes (Or.inr (Or.inr (Int.dvd_of_emod_eq_zero q)))
      have kA : v.toNat ≤ K := by
        rcases Nat.lt_or_ge K v.toNat with q | q
        · have l1 := pw_le hp.1 (show K + 1 ≤ v.toNat by omega)
          have l2 := (pk_pow h1).2
          rw [← hA] at l1
          omega
        · exact q
      have kC : (-v).toNat ≤ K := by
        rcases Nat.lt_or_ge K (-v).toNat with q | q
        · have l1 := pw_le hp.1 (show K + 1 ≤ (-v).toNat by omega)
          have l2 := (pk_pow h1).2
          rw [← hC] at l1
          omega
        · exact q
      have uA : Rr * A ≤ bnd := (Int.le_ediv_iff_mul_le Ap).mp f2
      have uA0 : 0 ≤ Rr * A := Int.mul_nonneg f1 (by omega)
      have uC : (T.natAbs : Int) * C ≤ bnd := (Int.le_ediv_iff_mul_le Cp).mp (by omega)
      have xA : (x * A).natAbs ≤ 1000000000 := by
        have t1 : (x.natAbs : Int) * A ≤ Rr * A := Int.mul_le_mul_of_nonneg_right (by omega) (by omega)
        have t2 : (((x * A).natAbs : Nat) : Int) = (x.natAbs : Int) * A := by rw [Int.natAbs_mul, Int.natCast_mul]; congr 1; omega
        omega
      have yC : y * C ≤ bnd := (Int.le_ediv_iff_mul_le Cp).mp g9
      have yC0 : 1 ≤ y * C := by
        have : 1 * 1 ≤ y * C := Int.mul_le_mul g8 (by omega) (by omega) (by omega)
        omega
      have TC : (T * C).natAbs ≤ 1000000000 := by
        have t2 : (((T * C).natAbs : Nat) : Int) = (T.natAbs : Int) * C := by rw [Int.natAbs_mul, Int.natCast_mul]; congr 1; omega
        omega
      have TC0 : T * C ≠ 0 := fun q => by rcases Int.mul_eq_zero.mp q with w | w <;> omega
      obtain ⟨d2, X, Y, y1, y2, y3, y4, y5, y6⟩ := red_ex (up := x * A) (low := y * C) (by omega)
      have red2 : red (Rr * A) (T * C) X Y := ⟨y6.1, y6.2.1, by rw [g5, g6]; have := y6.2.2; grind⟩
      have hfit : fits9 X Y := by
        have t1 : X.natAbs ≤ (x * A).natAbs := by
          rw [y4, Int.natAbs_mul]
          have := Nat.mul_le_mul_right X.natAbs (show 1 ≤ d2.natAbs by omega)
          omega
        have t2 : Y.natAbs ≤ (y * C).natAbs := by
          rw [y5, Int.natAbs_mul]
          have := Nat.mul_le_mul_right Y.natAbs (show 1 ≤ d2.natAbs by omega)
          omega
        exact ⟨by omega, by omega⟩
      obtain ⟨SC1, SM1, v9, u9, k1, k2, k3, k4, k5⟩ := frac_both2 h1 h2 (g2.fm h3) (rt := 126) (ct := 60) (by decide) (by omega) TC0 (by omega) (by omega) (show y * C ≠ 0 by omega) (by omega) (by omega) red2 y6
      rw [if_pos hfit] at k3
      have e5 : m_X1_power SC (ji v) = some (jl A) := by rw [cf_power h1 h2 r2, show min v.toNat K = v.toNat by omega, ← hA]
      have e6 : m_X1_power SC (ji (-v)) = some (jl C) := by rw [cf_power h1 h2 ⟨by omega, by omega⟩, show min (-v).toNat K = (-v).toNat by omega, ← hC]
      rw [if_neg (fun q => c1 ((jl_lt ⟨by omega, by omega⟩ ⟨by omega, by omega⟩).mp q)), if_neg (ji_ne0 ⟨by omega, by omega⟩ c2), e5, ho_s, e6, ho_s, jl_mul, jl_mul, k1, ho_s, bd2_s, g1, bd2_s, if_neg (show ¬ (1 : Int32) = 0 by decide)]
      unfold m_X3_guess_84
      rw [if_neg (show ¬ (1 : Int32) = 0 by decide)]
      have Rs : RelP p K m z SC1 SM1 := R.scr (k4.sc (by omega)) (g2.scR.tr (scM.scR (k5.sc (by omega))))
      have Rc : RelP p K m z SC1 S1 := R.scr (k4.sc (by omega)) g2.scR
      rw [Rc.2.2.2.2.2.1]
      by_cases c4 : m = 60
      · rw [if_pos (by rw [c4]; rfl), kp_full Rc c4 (by decide)]
        exact ⟨_, _, _, rfl, rfl, p, K, m, z, Rc⟩
      · rw [if_neg (fun q => c4 (by have := (ji_eql (a := m) (c := 60) (b := 60) ⟨by omega, by omega⟩ rfl (by decide)).mp q; omega))]
        have e286 : (if ji v ≤ 0 then (m_X4_guess_268 S1 (ji v) (jl (p ^ v.natAbs)) (S1.2 0 14) (60 : Int32)) else (m_X4_guess_268 S1 (ji v) (jl (p ^ v.natAbs)) ((S1.2 0 14) * jl (p ^ v.natAbs)) (60 : Int32))) = m_X4_guess_286 S1 (jl (y * C)) (jl (x * A)) (60 : Int32) := by
          unfold m_X4_guess_268
          rw [g3, g4, jl_mul, jl_mul]
          rcases Int.lt_trichotomy v 0 with q | q | q
          · have n1 : ji v ≤ 0 := (ji_lel (c := 0) (b := 0) r2 rfl (by decide)).mpr (by omega)
            have n2 : ¬ (0 : Int32) ≤ ji v := fun zz => by have := (ji_ler (c := 0) (b := 0) r2 rfl (by decide)).mp zz; omega
            rw [if_pos n1, if_neg n2, hAC.1 (by omega), hAC.2.2.2 (by omega), Int.mul_one]
          · have n1 : ji v ≤ 0 := (ji_lel (c := 0) (b := 0) r2 rfl (by decide)).mpr (by omega)
            have n2 : (0 : Int32) ≤ ji v := (ji_ler (c := 0) (b := 0) r2 rfl (by decide)).mpr (by omega)
            rw [if_pos n1, if_pos n2, hAC.1 (by omega), hAC.2.1 (by omega), Int.mul_one, Int.mul_one]
          · have n1 : ¬ ji v ≤ 0 := fun zz => by have := (ji_lel (c := 0) (b := 0) r2 rfl (by decide)).mp zz; omega
            have n2 : (0 : Int32) ≤ ji v := (ji_ler (c := 0) (b := 0) r2 rfl (by decide)).mpr (by omega)
            rw [if_neg n1, if_pos n2, hAC.2.1 (by omega), hAC.2.2.1 (by omega), Int.mul_one]
        rw [e286]
        unfold m_X4_guess_286
        rw [show (60 : Int32) = ji (60 : Nat) from rfl, k2, ho_s]
        have hv := k3.2.2.2.2.2.2.2.2.2.1 rfl
        exact kp_all Rs scC.rf scM.rf c4 k3 ⟨hv.2.2.2.2.2.1, hv.2.2.2.2.2.2.1⟩ (by omega)
  · rw [if_neg c]
    by_cases q : 0 ≤ v
    · have : bnd / A = 0 := Int.ediv_eq_zero_of_lt (by omega) (by rw [hAC.2.2.1 q]; omega)
      rw [this, if_pos (by decide), none_ _ rfl]
      exact ⟨_, _, _, rfl, rfl, R0⟩
    · have e1 : bnd / C = 0 := Int.ediv_eq_zero_of_lt (by omega) (by rw [hAC.2.2.2 (by omega)]; omega)
      have e2 : bnd / A = bnd := by rw [hAC.1 (by omega), Int.ediv_one]
      rw [e1, e2, if_neg (fun q => by have := (jl_ltl (a := bnd) (c := 1) (b := 1) ⟨by omega, by omega⟩ rfl (by decide)).mp q; omega), if_neg (by decide), none_ _ rfl]
      exact ⟨_, _, _, rfl, rfl, R0⟩
end
section
variable {SC SM : St}
theorem R_guess (R : Rel SC SM) (x w : Int32) : ∃ r SC1 SM1, m_X3_guess SC x w = some (r, SC1) ∧ m_X4_guess SM x w = some (r, SM1) ∧ Rel SC1 SM1 := by
  have R0 := R
  obtain ⟨p, K, m, z, R⟩ := R
  obtain ⟨h1, h2, h3, h4, h5, h6, -⟩ := id R
  have hp := pk_p h1
  have hK := pk_K h1
  have hw := ri_of w
  unfold m_X3_guess m_X4_guess
  rw [mf_in32 w 1 1000000000 1 1000000000 rfl rfl (by decide) (by decide)]
  rcases fnd R x with ⟨e1, e2⟩ | ⟨i, hi, rfl, e1, e2⟩
  · rw [e1, e2, ho_s, ho_s, if_pos rfl]; exact ⟨_, _, _, rfl, rfl, R0⟩
  · obtain ⟨k, v, n, u, a, b, B, bv1, bv2, -⟩ := R.2.2.2.2.2.2.2.2.2.2.2 i hi
    obtain ⟨r1, r2, r3, r4, r5, r6⟩ := vok_r h1 B.2.2
    have hi64 : i < 64 := by omega
    have hrx := kcV (show i < 63 by omega)
    rw [e1, e2, ho_s, ho_s, if_neg (show ¬ (1 : Int32) = 0 by decide), ho_s]
    have ew : w = ji w.toInt := ji_of w
    generalize w.toInt = t at *
    subst ew
    simp only [if_neg (oobc hi64), natc hi64]
    rw [if_pos hrx]
    by_cases c1 : t < 1
    · rw [if_pos ((ji_ltl (c := 1) (b := 1) hw rfl (by decide)).mpr c1), if_neg (show ¬ (1 ≤ t ∧ t ≤ 1000000000) by omega), if_pos rfl]
      exact ⟨_, _, _, rfl, rfl, R0⟩
    rw [if_neg (fun q => c1 ((ji_ltl (c := 1) (b := 1) hw rfl (by decide)).mp q))]
    by_cases c2 : t ≤ 1000000000
    · have hnK := B.2.2.2.2.2.2.1
      rw [if_pos ((ji_lel (c := 1000000000) (b := 1000000000) hw rfl (by decide)).mpr c2), if_pos (show 1 ≤ t ∧ t ≤ 1000000000 by omega), if_neg (show ¬ (1 : Int32) = 0 by decide), cs_nought h1 hrx B.1 B.2.2, ms_nought h1 hi64 B.2.1 B.2.2, ho_s, ho_s]
      by_cases q : ngt k n
      · simp only [if_pos q, if_neg (show ¬ (1 : Int32) = 0 by decide)]; exact ⟨_, _, _, rfl, rfl, R0⟩
      simp only [if_neg q]
      rw [if_pos trivial, if_pos trivial, B.1.2.2.1, cf_pw h1 h2 hnK, ho_s, B.2.1.2.2.1, if_neg (mf_oob h1 hnK), mf_pw h1 h3 hnK]
      by_cases c3 : (2 : Int64) * (ji t).toInt64 * (ji t).toInt64 < jl (p ^ n)
      · simp only [if_pos c3]
        rw [B.1.1, B.2.1.1]
        by_cases q1 : k = 1
        · subst q1
          have k1 : ji 1 = 1 := rfl
          simp only [if_pos k1]
          unfold m_X3_copyWithin
          obtain ⟨S1, f1, f2, f3, f4, f5⟩ := cs_copy (S := SC) (r0 := 126) (r1 := 6 + 2 * i) (by decide) hrx (by omega)
          have fr := f5 (6 + 2 * i) (by omega) (by omega)
          have sC : scC SC S1 := fun q hq => f5 q (by omega) (by omega)
          obtain ⟨ra, rb⟩ := r6 rfl
          rw [if_pos hrx, f1, ho_s, fr.1, (B.1.2.2.2.2 rfl).1, (B.1.2.2.2.2 rfl).2, cs_tooGreat ra (by omega) (by omega), ho_s, (B.2.1.2.2.2.2 rfl).1, (B.2.1.2.2.2.2 rfl).2, ji_neg, ji_l (z := -t) ⟨by omega, by omega⟩, ji_l hw, mf_in ⟨by omega, by omega⟩ ⟨by omega, by omega⟩ ⟨by omega, by omega⟩, ho_s]
          have RS : Rel S1 SM := ⟨p, K, m, z, R.sc sC scM.rf⟩
          by_cases c4 : -t ≤ a ∧ a ≤ t
          · simp only [if_pos c4]
            rw [if_pos trivial, if_neg (show ¬ (1 : Int32) = 0 by decide)]
            by_cases c5 : t < b
            · rw [if_pos ((ji_lt hw rb).mpr c5), if_neg (fun q => by have := (jl_le (a := b) (b := t) ⟨by omega, by omega⟩ ⟨by omega, by omega⟩).mp q; omega), bd2_s]
              unfold m_X3_guess_84
              rw [if_pos rfl]
              exact ⟨_, _, _, rfl, rfl, RS⟩
            · rw [if_neg (fun q => c5 ((ji_lt hw rb).mp q)), if_pos ((jl_le (a := b) (b := t) ⟨by omega, by omega⟩ ⟨by omega, by omega⟩).mpr (by omega)), bd2_s]
              unfold m_X3_guess_84
              rw [if_neg (show ¬ (1 : Int32) = 0 by decide), h6]
              have Rs := R.sc sC (scM.rf (S := SM))
              by_cases c6 : m = 60
              · rw [if_pos (by rw [c6]; rfl), kp_full Rs c6 (by decide)]
                exact ⟨_, _, _, rfl, rfl, p, K, m, z, Rs⟩
              · rw [if_neg (fun q => c6 (by have := (ji_eql (a := m) (c := 60) (b := 60) ⟨by omega, by omega⟩ rfl (by decide)).mp q; omega))]
                have B2 : bth p K S1 SM 126 i 1 v n u a b := ⟨⟨by rw [f2 1 (by omega)]; exact B.1.1, by rw [f2 2 (by omega)]; exact B.1.2.1, by rw [f2 3 (by omega)]; exact B.1.2.2.1, by rw [f3]; exact B.1.2.2.2.1, fun _ => ⟨by rw [f2 5 (by omega)]; exact (B.1.2.2.2.2 rfl).1, by rw [f2 6 (by omega)]; exact (B.1.2.2.2.2 rfl).2⟩⟩, B.2⟩
                obtain ⟨SC2, SM2, k1, k2, k3⟩ := kp_both Rs (by omega) (r := 126) (c := i) (by decide) (by omega) hi64 (by omega) B2 ⟨bv1, bv2⟩ (fun q => by omega)
                rw [k1, k2]
                exact ⟨_, _, _, rfl, rfl, p, K, m + 1, 1, k3⟩
          · simp only [if_neg c4]
            rw [if_neg (show ¬ (1 : Int32) = 0 by decide), if_pos trivial, bd2_s]
            unfold m_X3_guess_84
            rw [if_pos rfl]
            exact ⟨_, _, _, rfl, rfl, RS⟩
        · have k1 : ¬ ji k = 1 := fun z => q1 ((ji_eql (c := 1) (b := 1) r1 rfl (by decide)).mp z)
          simp only [if_neg k1]
          have n0 : n ≠ 0 := fun zz => q ⟨q1, zz⟩
          obtain ⟨r, SC1, SM1, g1, g2, g3⟩ := guess_both R hi B bv1 bv2 (by omega) (B.2.2.2.2.2.2.2.2.2.2 q1 n0) (show 1 ≤ t by omega) c2
          rw [g1, B.2.1.2.1]
          refine ⟨r, SC1, SM1, rfl, ?_, g3⟩
          rw [← g2]
          by_cases qv : 0 ≤ v
          · rw [if_pos ((ji_ler (c := 0) (b := 0) r2 rfl (by decide)).mpr qv), show ((v.natAbs : Nat) : Int) = v by omega]
          · rw [if_neg (fun zz => qv ((ji_ler (c := 0) (b := 0) r2 rfl (by decide)).mp zz)), ji_neg, show ((v.natAbs : Nat) : Int) = -v by omega]
      · simp only [if_neg c3]
        exact ⟨_, _, _, rfl, rfl, R0⟩
    · rw [if_neg (fun q => c2 ((ji_lel (c := 1000000000) (b := 1000000000) hw rfl (by decide)).mp q)), if_neg (show ¬ (1 ≤ t ∧ t ≤ 1000000000) by omega), if_pos rfl]
      exact ⟨_, _, _, rfl, rfl, R0⟩
end
