section
variable {SC SM : St} {p : Int} {K : Nat} {rx ry rt cx cy ct : Nat} {kx vx ux ax bx ky vy uy ay by_ : Int} {nx ny : Nat}
theorem unit_mul {K : Nat} {p : Int} (h : pk p K) {a b : Int} {n : Nat} (hn : 1 ≤ n) (ha : ¬ p ∣ a) (hb : ¬ p ∣ b) : ¬ p ∣ a * b % p ^ n := by
  have hp := pk_p h
  intro hd
  have h1 := Int.dvd_trans (dv_p hp.1 hn) (dv_mod (a := a * b) (m := p ^ n))
  have h3 := Int.dvd_sub hd h1
  rw [show a * b % p ^ n - (a * b % p ^ n - a * b) = a * b by omega] at h3
  rcases pk_prime h h3 with q | q
  · exact ha q
  · exact hb q
theorem unit_mod {p : Int} (hp : 2 ≤ p) {a : Int} {n : Nat} (hn : 1 ≤ n) (ha : ¬ p ∣ a) : ¬ p ∣ a % p ^ n := by
  intro hd
  have h1 := Int.dvd_trans (dv_p hp hn) (dv_mod (a := a) (m := p ^ n))
  have h3 := Int.dvd_sub hd h1
  rw [show a % p ^ n - (a % p ^ n - a) = a by omega] at h3
  exact ha h3
theorem unit_w {p : Int} (hp : 2 ≤ p) {a w : Int} {n : Nat} (hn : 1 ≤ n) (hw : p ^ n ∣ a * w - 1) : ¬ p ∣ w := by
  intro ⟨k, hk⟩
  obtain ⟨t, ht⟩ := Int.dvd_trans (dv_p hp hn) hw
  have : p * (a * k - t) = 1 := by rw [hk] at ht; grind
  have h2 : p ∣ 1 := ⟨_, this.symm⟩
  have := Int.le_of_dvd (by omega) h2
  omega
/-- products and quotients of two that aren't 0 / 1, and not both RATIOS -/
theorem mul_both (h : pk p K) (hc : fc SC p K) (hm : fm SM p K) (hrx : kc rx = 2) (hry : kc ry = 2) (hrt : kc rt = 2) (hcx : cx < 64) (hcy : cy < 64) (hct : ct < 64) (X : bth p K SC SM rx cx kx vx nx ux ax bx) (Y : bth p K SC SM ry cy ky vy ny uy ay by_) (zx : ¬ zro kx ax) (zy : ¬ zro ky ay) (bvx : -60 ≤ vx ∧ vx ≤ 60) (bvy : -60 ≤ vy ∧ vy ≤ 60) (over : Bool) : ∃ SC1 SM1 k v n u a b, m_X0_multiply SC rx ry (if over then 1 else 0) rt = some SC1 ∧ m_X4_multiplied SM (if over then 3 else 2) (ji cx) (ji cy) (ji ct) = some SM1 ∧ bth p K SC1 SM1 rt ct k v n u a b ∧ frc SC SC1 rt ∧ frm SM SM1 ct ∧ -200 ≤ v ∧ v ≤ 200 ∧ k ≤ 1 := by
  have hp := pk_p h
  have hK := pk_K h
  obtain ⟨x1, x2, x3⟩ := X
  obtain ⟨y1, y2, y3⟩ := Y
  obtain ⟨r1, r2, r3, r4, r5, r6⟩ := vok_r h x3
  obtain ⟨s1, s2, s3, s4, s5, s6⟩ := vok_r h y3
  obtain ⟨N, hN⟩ : ∃ N : Nat, N = if ny < nx then ny else nx := ⟨_, rfl⟩
  have hNK : N ≤ K := by have := x3.2.2.2.2.1; have := y3.2.2.2.2.1; rw [hN]; split <;> omega
  have b1 := pw_K h hNK
  have eN : (if ji (ny : Int) < ji (nx : Int) then ji (ny : Int) else ji (nx : Int)) = ji (N : Int) := by
    rw [ji_min s3 r3]; congr 1; rw [hN]; split <;> split <;> omega
  obtain ⟨vv, hvv⟩ : ∃ vv : Int, vv = if over then vx - vy else vx + vy := ⟨_, rfl⟩
  have bvv : -120 ≤ vv ∧ vv ≤ 120 := by rw [hvv]; split <;> omega
  have ux0 := x3.2.2.2.2.2.1
  have uy0 := y3.2.2.2.2.2.1
  have m1 := em_lt (a := ux) b1.1
  have m2 := em_lt (a := uy) b1.1
  -- the right factor
  have RW : ∃ w, 0 ≤ w ∧ w < p ^ N ∧ (N = 0 → w = 0) ∧ (N ≠ 0 → ¬ p ∣ w) ∧ (over = false → w = uy % p ^ N) ∧ (over = true → m_X1_inverse SC (jl (uy % p ^ N)) (ji N) = some (jl w) ∧ (N ≠ 0 → m_X4_inverse SM (jl (uy % p ^ N)) (ji N) = some (jl w))) := by
    by_cases c0 : N = 0
    · subst c0
      rw [Int.pow_zero] at *
      refine ⟨0, by omega, by omega, fun _ => rfl, fun q => absurd rfl q, fun _ => by omega, fun _ => ⟨?_, fun q => absurd rfl q⟩⟩
      rw [show uy % 1 = 0 by omega]
      exact cf_inverse0 h hc
    · have hny : ny ≠ 0 := by rw [hN] at c0; split at c0 <;> omega
      have huy : ¬ p ∣ uy := by
        by_cases q : ky = 1
        · exact (y3.2.2.2.2.2.2.2.1 q).2.2.2.2.2.2.2.2 (fun z => zy ⟨q, z⟩)
        · exact y3.2.2.2.2.2.2.2.2 q hny
      have hu2 := unit_mod hp.1 (show 1 ≤ N by omega) huy
      cases over with
      | false => exact ⟨uy % p ^ N, m2.1, m2.2, fun q => absurd q c0, fun _ => hu2, fun _ => rfl, fun q => by cases q⟩
      | true =>
        obtain ⟨w, i1, i2, i3, i4⟩ := cf_inverse h hc hNK (by omega) m2.1 m2.2 hu2
        obtain ⟨w2, j1, j2, j3, j4⟩ := mf_inverse h hm hNK (by omega) m2.1 ⟨by omega, by omega⟩ hu2
        have ew := inv_uniq i2 i3 j2 j3 i4 j4
        subst ew
        exact ⟨w, i2, i3, fun q => absurd q c0, fun _ => unit_w hp.1 (by omega) i4, fun q => (by cases q), fun _ => ⟨i1, fun _ => j1⟩⟩
  obtain ⟨w, w1, w2, w3, w4, w5, w6⟩ := RW
  -- the class
  have EC : m_X0_multiply SC rx ry (if over then 1 else 0) rt = (m_X2_set SC rt 0 (ji vv) (ji N) (jl (ux % p ^ N * w % p ^ N))).bind (fun S1 => some S1) := by
    unfold m_X0_multiply
    rw [if_pos hrx, if_pos hry, if_pos hrt, cs_zero h hrx x1 x3, ho_s, if_neg zx, if_pos rfl, cs_zero h hry y1 y3, ho_s, if_neg zy, if_pos rfl, x1.2.2.1, y1.2.2.1, eN, x1.2.2.2.1, y1.2.2.2.1, cf_reduce h hc r4 (by omega) hNK, ho_s, cf_reduce h hc s4 (by omega) hNK, ho_s]
    unfold m_X0_multiply_92 m_X0_multiply_127
    rw [x1.2.1, y1.2.1]
    cases over with
    | false =>
      simp only [Bool.false_eq_true, if_false]
      rw [if_pos trivial, ← w5 rfl, cf_product h hc hNK m1.1 m1.2 w1 w2, ho_s, if_pos trivial, ji_add, hvv]
      rfl
    | true =>
      simp only [if_true]
      rw [if_neg (by decide), (w6 rfl).1, ho_s, cf_product h hc hNK m1.1 m1.2 w1 w2, ho_s, if_neg (by decide), ji_sub, hvv]
      rfl
  have EM : m_X4_multiplied SM (if over then 3 else 2) (ji cx) (ji cy) (ji ct) = (m_X4_lay SM (ji ct) 0 (ji vv) (ji N) (jl (ux % p ^ N * w % p ^ N))).bind (fun S1 => some S1) := by
    have e1 : m_X4_multiplied SM (if over then 3 else 2) (ji cx) (ji cy) (ji ct) = m_X4_multiplied_66 SM (if over then 3 else 2) (ji cx) (ji cy) (ji ct) (ji vv) (ji N) := by
      unfold m_X4_multiplied m_X4_multiplied_34
      simp only [if_neg (oobc hcx), if_neg (oobc hcy), natc hcx, natc hcy]
      rw [x2.2.1, y2.2.1, x2.2.2.1, y2.2.2.1, ji_add, ji_sub]
      have e2 : ∀ z : Int32, (if ji (ny : Int) ≤ ji (nx : Int) then m_X4_multiplied_66 SM (if over then 3 else 2) (ji cx) (ji cy) (ji ct) z (ji ny) else m_X4_multiplied_66 SM (if over then 3 else 2) (ji cx) (ji cy) (ji ct) z (ji nx)) = m_X4_multiplied_66 SM (if over then 3 else 2) (ji cx) (ji cy) (ji ct) z (ji N) := by
        intro z
        by_cases q : (ny : Int) ≤ nx
        · rw [if_pos ((ji_le s3 r3).mpr q)]; congr 2; rw [hN]; split <;> omega
        · rw [if_neg (fun w => q ((ji_le s3 r3).mp w))]; congr 2; rw [hN]; split <;> omega
      rw [e2, e2]
      cases over with
      | false => simp only [Bool.false_eq_true, if_false]; rw [if_pos trivial, hvv]; rfl
      | true => simp only [if_true]; rw [if_neg (by decide), hvv]; rfl
    rw [e1]
    unfold m_X4_multiplied_66 m_X4_multiplied_84 m_X4_multiplied_152
    rw [ms_nought h hcx x2 x3, ho_s]
    by_cases qx : ngt kx nx
    · have c0 : N = 0 := by rw [hN]; have := qx.2; split <;> omega
      rw [if_pos qx, if_neg (by decide), c0, Int.pow_zero, Int.emod_one]; rfl
    · rw [if_neg qx, if_pos rfl, ms_nought h hcy y2 y3, ho_s]
      by_cases qy : ngt ky ny
      · have c0 : N = 0 := by rw [hN]; have := qy.2; split <;> omega
        rw [if_pos qy, if_neg (by decide), c0, Int.pow_zero, Int.emod_one]; rfl
      · have hnx0 : nx ≠ 0 := by
          intro z
          by_cases q : kx = 1
          · have := (x3.2.2.2.2.2.2.2.1 q).1; omega
          · exact qx ⟨q, z⟩
        have hny0 : ny ≠ 0 := by
          intro z
          by_cases q : ky = 1
          · have := (y3.2.2.2.2.2.2.2.1 q).1; omega
          · exact qy ⟨q, z⟩
        have c0 : N ≠ 0 := by rw [hN]; split <;> omega
        rw [if_neg qy, if_pos rfl]
        simp only [if_neg (oobc hcx), if_neg (oobc hcy), natc hcx, natc hcy, if_neg (mf_oob h hNK)]
        rw [mf_pw h hm hNK, x2.2.2.2.1, y2.2.2.2.1, if_neg (jl_ne0 ⟨by omega, by omega⟩ (by omega)), if_neg (jl_ne0 ⟨by omega, by omega⟩ (by omega)), jl_mod r4 ux0 ⟨by omega, by omega⟩, jl_mod s4 uy0 ⟨by omega, by omega⟩]
        cases over with
        | false =>
          simp only [Bool.false_eq_true, if_false]
          rw [if_pos trivial, ← w5 rfl, mf_times b1.1 b1.2 m1.1 m1.2 w1 ⟨by omega, by omega⟩]
          rfl
        | true =>
          simp only [if_true]
          rw [if_neg (by decide), (w6 rfl).2 c0, ho_s, mf_times b1.1 b1.2 m1.1 m1.2 w1 ⟨by omega, by omega⟩]
          rfl
  have mw := em_lt (a := ux % p ^ N * w) b1.1
  obtain ⟨S1, e1, a1, a2, a3, a4, a5, a6, a7⟩ := cs_set (S := SC) hrt 0 (ji vv) (ji N) (jl (ux % p ^ N * w % p ^ N))
  obtain ⟨S2, e2, c1, c2, c3, c4, c5, c6, c7⟩ := ms_lay (S := SM) hct 0 (ji vv) (ji N) (jl (ux % p ^ N * w % p ^ N))
  rw [EC, EM, e1, ho_s, e2, ho_s]
  refine ⟨S1, S2, 0, vv, N, ux % p ^ N * w % p ^ N, 0, 1, rfl, rfl, ⟨⟨a1, a2, a3, a4, fun z => by omega⟩, ⟨c1, c2, c3, c4, fun z => by omega⟩, ⟨by omega, by omega, by omega, by omega, hNK, mw.1, mw.2, fun z => by omega, fun _ z => ?_⟩⟩, a7, c7, by omega, by omega, by omega⟩
  have hnx : nx ≠ 0 := by rw [hN] at z; split at z <;> omega
  have hux : ¬ p ∣ ux := by
    by_cases q : kx = 1
    · exact (x3.2.2.2.2.2.2.2.1 q).2.2.2.2.2.2.2.2 (fun z => zx ⟨q, z⟩)
    · exact x3.2.2.2.2.2.2.2.2 q hnx
  exact unit_mul h (by omega) (unit_mod hp.1 (by omega) hux) (w4 z)
/-- a fraction laid by both -/
theorem frac_both (h : pk p K) (hc : fc SC p K) (hm : fm SM p K) (hrt : kc rt = 2) (hct : ct < 64) {up low : Int} (h0 : low ≠ 0) (bu : up.natAbs ≤ 2000000000000000000) (bl : low.natAbs ≤ 2000000000000000000) : ∃ SC1 SM1 k v n u a b, m_X0_setFraction SC (jl up) (jl low) rt = some SC1 ∧ m_X4_layFraction SM (ji ct) (jl up) (jl low) = some SM1 ∧ bth p K SC1 SM1 rt ct k v n u a b ∧ frc SC SC1 rt ∧ frm SM SM1 ct ∧ -200 ≤ v ∧ v ≤ 200 ∧ red up low a b ∧ k = (if fits9 a b then 1 else 0) := by
  obtain ⟨d, x, y, d1, d2, d3, d4, d5, d6⟩ := red_ex (up := up) h0
  obtain ⟨S1, v, u, e1, e2, e3, e4, e5, e6⟩ := cs_frac h hc hrt h0 bu bl d6
  obtain ⟨S2, v2, u2, f1, f2, f3, f4⟩ := ms_frac h hm hct h0 bu bl d6
  obtain ⟨q1, q2⟩ := frv_uniq h e3 f3
  subst q1 q2
  exact ⟨S1, S2, _, v, K, u, x, y, e1, f1, ⟨e2, f2, fr_vok h d6 e3 e5 e6⟩, e4, f4, by omega, by omega, d6, rfl⟩
theorem mul9 {a b : Int} (ha : a.natAbs ≤ 1000000000) (hb : b.natAbs ≤ 1000000000) : (a * b).natAbs ≤ 1000000000000000000 := by
  rw [Int.natAbs_mul]
  exact Nat.mul_le_mul ha hb
/-- two RATIOS -/
theorem rat_both (h : pk p K) (hc : fc SC p K) (hm : fm SM p K) (hrx : kc rx = 2) (hry : kc ry = 2) (hrt : kc rt = 2) (hcx : cx < 64) (hcy : cy < 64) (hct : ct < 64) (X : bth p K SC SM rx cx kx vx nx ux ax bx) (Y : bth p K SC SM ry cy ky vy ny uy ay by_) (hx : kx = 1) (hy : ky = 1) {way : Int} (hw0 : 0 ≤ way) (hw3 : way ≤ 3) (hz : way = 3 → ay ≠ 0) : ∃ SC1 SM1 k v n u a b, m_X0_combineRatios SC (ji way) rx ry rt = some SC1 ∧ m_X4_ofRatios SM (ji way) (ji cx) (ji cy) (ji ct) = some SM1 ∧ bth p K SC1 SM1 rt ct k v n u a b ∧ frc SC SC1 rt ∧ frm SM SM1 ct ∧ -200 ≤ v ∧ v ≤ 200 ∧ k ≤ 1 := by
  obtain ⟨x1, x2, x3⟩ := X
  obtain ⟨y1, y2, y3⟩ := Y
  obtain ⟨g1, g2, g3, g4, -⟩ := x3.2.2.2.2.2.2.2.1 hx
  obtain ⟨h1, h2, h3, h4, -⟩ := y3.2.2.2.2.2.2.2.1 hy
  have p1 := mul9 g4 (show by_.natAbs ≤ 1000000000 by omega)
  have p2 := mul9 (show bx.natAbs ≤ 1000000000 by omega) h4
  have p3 := mul9 (show bx.natAbs ≤ 1000000000 by omega) (show by_.natAbs ≤ 1000000000 by omega)
  have p4 := mul9 g4 h4
  have nb : bx * by_ ≠ 0 := fun z => by rcases Int.mul_eq_zero.mp z with q | q <;> omega
  unfold m_X0_combineRatios m_X4_ofRatios m_X4_ofRatios_69 m_X4_ofRatios_101 m_X4_ofRatios_119
  simp only [if_neg (oobc hcx), if_neg (oobc hcy), natc hcx, natc hcy]
  rw [if_pos hrx, if_pos hry, if_pos hrt, (x1.2.2.2.2 hx).1, (x1.2.2.2.2 hx).2, (y1.2.2.2.2 hy).1, (y1.2.2.2.2 hy).2, (x2.2.2.2.2 hx).1, (x2.2.2.2.2 hx).2, (y2.2.2.2.2 hy).1, (y2.2.2.2.2 hy).2, ji_l (z := ax) ⟨by omega, by omega⟩, ji_l (z := bx) ⟨by omega, by omega⟩, ji_l (z := ay) ⟨by omega, by omega⟩, ji_l (z := by_) ⟨by omega, by omega⟩]
  simp only [jl_mul, jl_add, jl_sub]
  rw [show ay * bx = bx * ay from Int.mul_comm _ _]
  have fin : ∀ up low : Int, low ≠ 0 → up.natAbs ≤ 2000000000000000000 → low.natAbs ≤ 2000000000000000000 → ∃ SC1 SM1 k v n u a b, (m_X0_setFraction SC (jl up) (jl low) rt).bind (fun S1 => some S1) = some SC1 ∧ (m_X4_layFraction SM (ji ct) (jl up) (jl low)).bind (fun S1 => some S1) = some SM1 ∧ bth p K SC1 SM1 rt ct k v n u a b ∧ frc SC SC1 rt ∧ frm SM SM1 ct ∧ -200 ≤ v ∧ v ≤ 200 ∧ k ≤ 1 := by
    intro up low q1 q2 q3
    obtain ⟨S1, S2, k, v, n, u, a, b, e1, e2, e3, e4, e5, e6, e7, e8, e9⟩ := frac_both h hc hm hrt hct q1 q2 q3
    exact ⟨S1, S2, k, v, n, u, a, b, by rw [e1]; rfl, by rw [e2]; rfl, e3, e4, e5, e6, e7, by rw [e9]; split <;> omega⟩
  have hw : way = 0 ∨ way = 1 ∨ way = 2 ∨ way = 3 := by omega
  rcases hw with rfl | rfl | rfl | rfl
  · rw [if_pos (by decide), if_neg (by decide), if_pos (by decide)]
    exact fin _ _ nb (by omega) (by omega)
  · rw [if_neg (by decide), if_pos (by decide), if_neg (by decide), if_neg (by decide)]
    exact fin _ _ nb (by omega) (by omega)
  · rw [if_neg (by decide), if_neg (by decide), if_pos (by decide), if_pos (by decide), if_pos (by decide), if_pos (by decide)]
    exact fin _ _ nb (by omega) (by omega)
  · rw [if_neg (by decide), if_neg (by decide), if_neg (by decide), if_pos (by decide), if_neg (by decide), if_neg (by decide)]
    have nb2 : bx * ay ≠ 0 := fun z => by
      rcases Int.mul_eq_zero.mp z with q | q
      · omega
      · exact hz rfl q
    exact fin _ _ nb2 (by omega) (by omega)
/-- WHAT IS MADE OF TWO: both alike -/
theorem cmb_both (h : pk p K) (hc : fc SC p K) (hm : fm SM p K) (hrx : kc rx = 2) (hry : kc ry = 2) (hrt : kc rt = 2) (hcx : cx < 64) (hcy : cy < 64) (hct : ct < 64) (X : bth p K SC SM rx cx kx vx nx ux ax bx) (Y : bth p K SC SM ry cy ky vy ny uy ay by_) (bvx : -60 ≤ vx ∧ vx ≤ 60) (bvy : -60 ≤ vy ∧ vy ≤ 60) {way : Int} (hw0 : 0 ≤ way) (hw3 : way ≤ 3) (hz : way = 3 → ¬ (ngt ky ny ∨ zro ky ay)) : ∃ SC1 SM1 k v n u a b, m_X0_combine SC (ji way) rx ry rt = some SC1 ∧ m_X4_reckon SM (ji way) (ji cx) (ji cy) (ji ct) = some (if v < -60 ∨ 60 < v then -7 else 0, SM1) ∧ bth p K SC1 SM1 rt ct k v n u a b ∧ frc SC SC1 rt ∧ frm SM SM1 ct ∧ -200 ≤ v ∧ v ≤ 200 ∧ k ≤ 1 := by
  obtain ⟨x1, x2, x3⟩ := X
  obtain ⟨y1, y2, y3⟩ := Y
  obtain ⟨r1, r2, r3, r4, r5, r6⟩ := vok_r h x3
  obtain ⟨s1, s2, s3, s4, s5, s6⟩ := vok_r h y3
  have hw : way = 0 ∨ way = 1 ∨ way = 2 ∨ way = 3 := by omega
  have e24 : m_X4_reckon SM (ji way) (ji cx) (ji cy) (ji ct) = m_X4_reckon_24 SM (ji way) (ji cx) (ji cy) (ji ct) := by
    unfold m_X4_reckon
    by_cases q : way = 3
    · have hz := hz q
      rw [if_pos (by rw [q]; rfl), ms_nought h hcy y2 y3, ho_s, if_neg (fun z => hz (Or.inl z)), if_pos rfl, ms_zero h hcy y2 y3, ho_s, if_neg (fun z => hz (Or.inr z)), if_pos rfl]
    · rw [if_neg (fun z => q ((ji_eql (c := 3) (b := 3) ⟨by omega, by omega⟩ rfl (by decide)).mp z))]
  have e109 : ∀ {SM1 : St} {k v : Int} {n : Nat} {u a b : Int}, vm SM1 ct k v n u a b → -200 ≤ v → v ≤ 200 → m_X4_reckon_109 SM1 (ji ct) = some (if v < -60 ∨ 60 < v then -7 else 0, SM1) := by
    intro SM1 k v n u a b hv q1 q2
    unfold m_X4_reckon_109
    rw [ms_beyond hct hv.2.1 ⟨by omega, by omega⟩, ho_s]
    by_cases q : v < -60 ∨ 60 < v
    · rw [if_pos q, if_neg (by decide), if_pos q]
    · rw [if_neg q, if_pos rfl, if_neg q]
  rw [e24]
  unfold m_X0_combine m_X4_reckon_24
  simp only [if_neg (oobc hcx), if_neg (oobc hcy), natc hcx, natc hcy]
  rw [if_pos hrx, if_pos hry, if_pos hrt, x1.1, y1.1, x2.1, y2.1]
  have oth : ¬ (kx = 1 ∧ ky = 1) → ∃ SC1 SM1 k v n u a b, m_X0_combine_28 SC (ji way) rx ry rt = some SC1 ∧ m_X4_reckon_56 SM (ji way) (ji cx) (ji cy) (ji ct) = some (if v < -60 ∨ 60 < v then -7 else 0, SM1) ∧ bth p K SC1 SM1 rt ct k v n u a b ∧ frc SC SC1 rt ∧ frm SM SM1 ct ∧ -200 ≤ v ∧ v ≤ 200 ∧ k ≤ 1 := by
    intro hnr
    have hnr : kx ≠ 1 ∨ ky ≠ 1 := by
      by_cases q : kx = 1
      · exact Or.inr (fun z => hnr ⟨q, z⟩)
      · exact Or.inl q
    have addc : ∀ less : Bool, ∃ SC1 SM1 k v n u a b, m_X0_combine_50 SC rt (if less then 1 else 0) ry rx = some SC1 ∧ (m_X4_added SM (if less then 1 else 0) (ji cx) (ji cy) (ji ct)).bind (fun S7 => m_X4_reckon_109 S7 (ji ct)) = some (if v < -60 ∨ 60 < v then -7 else 0, SM1) ∧ bth p K SC1 SM1 rt ct k v n u a b ∧ frc SC SC1 rt ∧ frm SM SM1 ct ∧ -200 ≤ v ∧ v ≤ 200 ∧ k ≤ 1 := by
      intro less
      obtain ⟨S1, S2, k, v, n, u, a, b, e1, e2, e3, e4, e5, e6, e7⟩ := add_both h hc hm hrx hry hrt hcx hcy hct ⟨x1, x2, x3⟩ ⟨y1, y2, y3⟩ hnr bvx bvy less
      unfold m_X0_combine_50
      exact ⟨S1, S2, k, v, n, u, a, b, by rw [e1]; rfl, by rw [e2, ho_s]; exact e109 e3.2.1 e6 e7.1, e3, e4, e5, e6, e7⟩
    have mulc : ∀ over : Bool, ∃ SC1 SM1 k v n u a b, m_X0_combine_71 SC rt (if over then 1 else 0) ry rx = some SC1 ∧ ((m_X4_isZero SM (ji cx)).bind (fun r_2 => if r_2 = 0 then ((m_X4_isZero SM (ji cy)).bind (fun r_4 => if r_4 = 0 then ((m_X4_multiplied SM (if over then 3 else 2) (ji cx) (ji cy) (ji ct)).bind (fun S_6 => m_X4_reckon_109 S_6 (ji ct))) else (m_X4_reckon_89 SM (ji ct)))) else (m_X4_reckon_89 SM (ji ct)))) = some (if v < -60 ∨ 60 < v then -7 else 0, SM1) ∧ bth p K SC1 SM1 rt ct k v n u a b ∧ frc SC SC1 rt ∧ frm SM SM1 ct ∧ -200 ≤ v ∧ v ≤ 200 ∧ k ≤ 1 := by
      intro over
      unfold m_X0_combine_71
      have zer : zro kx ax ∨ zro ky ay → ∃ SC1 SM1 k v n u a b, (m_X0_multiply_14 SC rt).bind (fun S1 => some S1) = some SC1 ∧ m_X4_reckon_89 SM (ji ct) = some (if v < -60 ∨ 60 < v then -7 else 0, SM1) ∧ bth p K SC1 SM1 rt ct k v n u a b ∧ frc SC SC1 rt ∧ frm SM SM1 ct ∧ -200 ≤ v ∧ v ≤ 200 ∧ k ≤ 1 := by
        intro _
        obtain ⟨S1, S2, k, v, n, u, a, b, e1, e2, e3, e4, e5, e6, e7, e8, e9⟩ := frac_both h hc hm hrt hct (up := 0) (low := 1) (by decide) (by decide) (by decide)
        unfold m_X0_multiply_14 m_X4_reckon_89
        exact ⟨S1, S2, k, v, n, u, a, b, by rw [show (0 : Int64) = jl 0 from rfl, show (1 : Int64) = jl 1 from rfl, e1]; rfl, by rw [show (0 : Int64) = jl 0 from rfl, show (1 : Int64) = jl 1 from rfl, e2, ho_s]; exact e109 e3.2.1 e6 e7, e3, e4, e5, e6, e7, by rw [e9]; split <;> omega⟩
      by_cases zx : zro kx ax
      · have em : m_X0_multiply SC rx ry (if over then 1 else 0) rt = m_X0_multiply_14 SC rt := by
          unfold m_X0_multiply
          rw [if_pos hrx, if_pos hry, if_pos hrt, cs_zero h hrx x1 x3, ho_s, if_pos zx, if_neg (by decide)]
        rw [em, ms_zero h hcx x2 x3, ho_s, if_pos zx, if_neg (by decide)]
        exact zer (Or.inl zx)
      · by_cases zy : zro ky ay
        · have em : m_X0_multiply SC rx ry (if over then 1 else 0) rt = m_X0_multiply_14 SC rt := by
            unfold m_X0_multiply
            rw [if_pos hrx, if_pos hry, if_pos hrt, cs_zero h hrx x1 x3, ho_s, if_neg zx, if_pos rfl, cs_zero h hry y1 y3, ho_s, if_pos zy, if_neg (by decide)]
          rw [em, ms_zero h hcx x2 x3, ho_s, if_neg zx, if_pos rfl, ms_zero h hcy y2 y3, ho_s, if_pos zy, if_neg (by decide)]
          exact zer (Or.inr zy)
        · obtain ⟨S1, S2, k, v, n, u, a, b, e1, e2, e3, e4, e5, e6, e7⟩ := mul_both h hc hm hrx hry hrt hcx hcy hct ⟨x1, x2, x3⟩ ⟨y1, y2, y3⟩ zx zy bvx bvy over
          refine ⟨S1, S2, k, v, n, u, a, b, by rw [e1]; rfl, ?_, e3, e4, e5, e6, e7⟩
          rw [ms_zero h hcx x2 x3, ho_s, if_neg zx, if_pos rfl, ms_zero h hcy y2 y3, ho_s, if_neg zy, if_pos rfl, e2, ho_s]
          exact e109 e3.2.1 e6 e7.1
    unfold m_X0_combine_28 m_X0_combine_37 m_X4_reckon_56
    rcases hw with rfl | rfl | rfl | rfl
    · rw [if_pos (by decide), if_neg (by decide), if_neg (by decide)]
      exact addc false
    · rw [if_neg (by decide), if_pos (by decide), if_pos (by decide), if_neg (by decide)]
      exact addc true
    · rw [if_neg (by decide), if_neg (by decide), if_neg (by decide), if_pos (by decide)]
      exact mulc false
    · rw [if_neg (by decide), if_neg (by decide), if_pos (by decide), if_pos (by decide)]
      exact mulc true
  by_cases qx : kx = 1
  · have kx1 : ji kx = 1 := by rw [qx]; rfl
    simp only [if_pos kx1]
    by_cases qy : ky = 1
    · have ky1 : ji ky = 1 := by rw [qy]; rfl
      simp only [if_pos ky1]
      obtain ⟨S1, S2, k, v, n, u, a, b, e1, e2, e3, e4, e5, e6, e7⟩ := rat_both h hc hm hrx hry hrt hcx hcy hct ⟨x1, x2, x3⟩ ⟨y1, y2, y3⟩ qx qy hw0 hw3 (fun z w => hz z (Or.inr ⟨qy, w⟩))
      exact ⟨S1, S2, k, v, n, u, a, b, by rw [e1]; rfl, by rw [e2, ho_s]; exact e109 e3.2.1 e6 e7.1, e3, e4, e5, e6, e7⟩
    · have ky1 : ¬ ji ky = 1 := fun z => qy ((ji_eql (c := 1) (b := 1) s1 rfl (by decide)).mp z)
      simp only [if_neg ky1]
      exact oth (fun z => qy z.2)
  · have kx1 : ¬ ji kx = 1 := fun z => qx ((ji_eql (c := 1) (b := 1) r1 rfl (by decide)).mp z)
    simp only [if_neg kx1]
    exact oth (fun z => qx z.1)
end
