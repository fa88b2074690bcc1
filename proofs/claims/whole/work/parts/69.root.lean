/-! roots of the polynomial -/
section
variable {S SC SM SC1 SM1 : St} {p : Int} {K m : Nat} {z : Int}
theorem cs_noSure (h : pk p K) (hS : fc S p K) {n : Int} (hn : ri n) : m_X3_isNoSure S (ji n) = some (if 1 ≤ n ∧ n ≤ K then 0 else 1) := by
  have hK := pk_K h
  unfold m_X3_isNoSure m_X3_isNoSure_16
  rw [hS.2.1]
  by_cases q1 : n < 1
  · rw [if_pos ((ji_ltl (c := 1) (b := 1) hn rfl (by decide)).mpr q1), if_neg (by omega)]
  · rw [if_neg (fun q => q1 ((ji_ltl (c := 1) (b := 1) hn rfl (by decide)).mp q))]
    by_cases q2 : n ≤ K
    · rw [if_pos ((ji_le hn ⟨by omega, by omega⟩).mpr q2), if_pos (by omega)]
    · rw [if_neg (fun q => q2 ((ji_le hn ⟨by omega, by omega⟩).mp q)), if_neg (by omega)]
/-- what of the reference's state may change without being seen -/
def scR (m : Nat) (S S1 : St) : Prop := (∀ q j, q ≤ 10 → ¬ (2 ≤ q ∧ q ≤ 7 ∧ 60 ≤ j) → ¬ (q = 8 ∧ m ≤ j) → ¬ (q = 9 ∧ 8 * m ≤ j) → S1.1 q j = S.1 q j) ∧ ∀ q j, 1 ≤ q → q ≤ 7 → ¬ (2 ≤ q ∧ 60 ≤ j) → S1.2 q j = S.2 q j
theorem scM.scR (h : scM SM SM1) : scR m SM SM1 := ⟨fun q j _ h2 _ _ => (h q j h2).1, fun q j _ _ h3 => (h q j (by omega)).2⟩
theorem scR.tr {SM2 : St} (h1 : scR m SM SM1) (h2 : scR m SM1 SM2) : scR m SM SM2 := ⟨fun q j a b c d => (h2.1 q j a b c d).trans (h1.1 q j a b c d), fun q j a b c => (h2.2 q j a b c).trans (h1.2 q j a b c)⟩
theorem scR.rf : scR m SM SM := ⟨fun _ _ _ _ _ _ => rfl, fun _ _ _ _ _ => rfl⟩
theorem RelP.scr (R : RelP p K m z SC SM) (hC : scC SC SC1) (hM : scR m SM SM1) : RelP p K m z SC1 SM1 := by
  obtain ⟨h1, h2, h3, h4, h5, h6, h7, h8, h9, h10, ⟨c, h11, h12⟩, h13⟩ := R
  refine ⟨h1, hC.fc h2, ⟨?_, ?_, ?_⟩, h4, by rw [(hC 0 (by omega)).1]; exact h5, ?_, h7, by rw [(hC 0 (by omega)).1]; exact h8, ?_, h10, ⟨c, by rw [(hC 5 (by omega)).1]; exact h11, fun j hj => ?_⟩, fun i hi => ?_⟩
  · rw [hM.1 0 0 (by omega) (by omega) (by omega) (by omega)]; exact h3.1
  · rw [hM.1 0 1 (by omega) (by omega) (by omega) (by omega)]; exact h3.2.1
  · intro j hj; rw [hM.2 1 j (by omega) (by omega) (by omega)]; exact h3.2.2 j hj
  · rw [hM.1 0 3 (by omega) (by omega) (by omega) (by omega)]; exact h6
  · rw [hM.1 0 4 (by omega) (by omega) (by omega) (by omega)]; exact h9
  · rw [hM.1 10 j (by omega) (by omega) (by omega) (by omega)]; exact h12 j hj
  · obtain ⟨k, v, n, u, a, b, d1, d2, d3, d4⟩ := h13 i hi
    exact ⟨k, v, n, u, a, b, d1.to (hC _ (by omega)).1 (hC _ (by omega)).2 (fun q a1 a2 => ⟨hM.1 q i (by omega) (by omega) (by omega) (by omega), hM.2 q i (by omega) (by omega) (by omega)⟩), d2, d3, fun q => (d4 q).to (hC _ (by omega)).1 (hC _ (by omega)).1 (hM.1 8 i (by omega) (by omega) (by omega) (by omega)) (fun j hj => hM.1 9 _ (by omega) (by omega) (by omega) (by omega))⟩
theorem alg16a {s D w m k5 k6 : Int} (e5 : s * w - 1 = m * k5) (e6 : s - D = m * k6) : D * w - 1 = m * (k5 - k6 * w) := by
  have e : s = D + m * k6 := by omega
  subst e
  grind
theorem alg16b {y x F V w W m k1 k2 k3 : Int} (e1 : y - (x - W) = m * k1) (e2 : W - V * w = m * k2) (e3 : V - F = m * k3) : y - (x - F * w) = m * (k1 - k2 - k3 * w) := by
  have f3 : V = F + m * k3 := by omega
  subst f3
  have f2 : W = (F + m * k3) * w + m * k2 := by omega
  subst f2
  have f1 : y = x - ((F + m * k3) * w + m * k2) + m * k1 := by omega
  subst f1
  clear e1 e2 e3
  grind
theorem rf_newt (h : pk p K) (hS : fc S p K) {r : Nat} (hr : kc r = 5) {c : Nat → Int} (hc : cf8 (S.1 r) c) {N : Nat} {f : Int} (hN : N ≤ K) (hN1 : 1 ≤ N) (hg : ¬ p ∣ hz (sl c) f 7 0) : ∀ (n s : Nat) (x : Int), 1 ≤ s → s ≤ 128 → (N : Int) - s < n → 0 < n → 0 ≤ x → x < p ^ N → p ^ (min s N) ∣ hz c x 8 0 → p ∣ x - f → ∃ y, m_X1_rootFrom_7 S n r (ji N) (jl x) (ji s) = some (jl y) ∧ 0 ≤ y ∧ y < p ^ N ∧ p ^ N ∣ hz c y 8 0 ∧ p ∣ y - f := by
  have hp := pk_p h
  have hK := pk_K h
  have q5 := pw_K h hN
  intro n
  induction n with
  | zero => intro s x _ _ _ hn; omega
  | succ n ih =>
    intro s x hs hs2 hn _ hx hx2 hd hxf
    unfold m_X1_rootFrom_7
    by_cases c1 : N ≤ s
    · rw [if_pos ((ji_le ⟨by omega, by omega⟩ ⟨by omega, by omega⟩).mpr (by omega))]
      refine ⟨x, rfl, hx, hx2, ?_, hxf⟩
      rwa [show min s N = N by omega] at hd
    · have hx1 : ¬ p ∣ hz (sl c) x 7 0 := ndv (hz_cong hxf 7 0 0 ⟨0, by omega⟩) hg
      have r2 := em_lt (a := hz c x 8 0) q5.1
      have r3 := em_lt (a := hz (sl c) x 7 0) q5.1
      obtain ⟨w, i1, i2, i3, i4⟩ := cf_inverse h hS hN hN1 r3.1 r3.2 (unit_mod hp.1 hN1 hx1)
      have r4 := em_lt (a := hz c x 8 0 % p ^ N * w) q5.1
      have r5 := em_lt (a := x - hz c x 8 0 % p ^ N * w % p ^ N) q5.1
      rw [if_neg (fun q => c1 (by have := (ji_le (a := N) (b := s) ⟨by omega, by omega⟩ ⟨by omega, by omega⟩).mp q; omega)), cf_slopeAt h hS hr hc hN hx hx2, ho_s, i1, ho_s, cf_valueAt h hS hr hc hN hx hx2, ho_s, cf_product h hS hN r2.1 r2.2 i2 i3, ho_s, jl_sub, cf_reduce h hS ⟨by omega, by omega⟩ (by omega) hN, ho_s, show (2 : Int32) = ji 2 from rfl, ji_mul, show ((s : Int) * 2) = ((s * 2 : Nat) : Int) by omega]
      obtain ⟨k1, e1⟩ := dv_mod (a := x - hz c x 8 0 % p ^ N * w % p ^ N) (m := p ^ N)
      obtain ⟨k2, e2⟩ := dv_mod (a := hz c x 8 0 % p ^ N * w) (m := p ^ N)
      obtain ⟨k3, e3⟩ := dv_mod (a := hz c x 8 0) (m := p ^ N)
      obtain ⟨k5, e5⟩ := i4
      obtain ⟨k6, e6⟩ := dv_mod (a := hz (sl c) x 7 0) (m := p ^ N)
      obtain ⟨n1, n2⟩ := newt (m := p ^ N) hd (pw_min p) (pw_dvd p (by omega)) (pw_dvd p (by omega)) ⟨_, alg16a e5 e6⟩ ⟨_, alg16b e1 e2 e3⟩
      refine ih (s * 2) _ (by omega) (by omega) (by omega) (by omega) r5.1 r5.2 n1 ?_
      have n3 := Int.dvd_trans (dv_p hp.1 (show 1 ≤ min s N by omega)) n2
      have := Int.dvd_add n3 hxf
      generalize (x - hz c x 8 0 % p ^ N * w % p ^ N) % p ^ N = Y at *
      rwa [show Y - x + (x - f) = Y - f by omega] at this
theorem cf_rootFrom (h : pk p K) (hS : fc S p K) {r : Nat} (hr : kc r = 5) {c : Nat → Int} (hc : cf8 (S.1 r) c) {N : Nat} {f : Int} (hN : N ≤ K) (hN1 : 1 ≤ N) (hf0 : 0 ≤ f) (hf : f < p) (hg : good p c f) : ∃ y, m_X1_rootFrom S r (ji f) (ji N) = some (jl y) ∧ 0 ≤ y ∧ y < p ^ N ∧ p ^ N ∣ hz c y 8 0 ∧ p ∣ y - f := by
  have hp := pk_p h
  have hK := pk_K h
  have hle := pw_le hp.1 hN1
  rw [pw1] at hle
  unfold m_X1_rootFrom
  rw [if_pos hr, ji_l ⟨by omega, by omega⟩]
  refine rf_newt h hS hr hc hN hN1 (fun q => hg.2 (Int.emod_eq_zero_of_dvd q)) fu 1 f (by omega) (by omega) (by rw [fu_v]; omega) (by rw [fu_v]; omega) hf0 (by omega) ?_ ⟨0, by omega⟩
  rw [show min 1 N = 1 by omega, pw1]
  exact Int.dvd_of_emod_eq_zero hg.1
/-- the search of the next figure -/
theorem ro_in (h : pk p K) (hm : fm SM p K) {c : Nat → Int} {i : Nat} (hi : i < 64) (hc : cf8 (fun j => SM.1 9 (8 * i + j)) c) {N k : Nat} {y : Int} (hN : N ≤ K) (hk1 : 1 ≤ k) (hkN : k < N) (hy : p ^ N ∣ hz c y 8 0) (hyp : ¬ p ∣ hz (sl c) y 7 0) {k11 : Int32 → Int32 → Int64 → Int32 → Option Int64} : ∀ (j n : Nat) (d : Int), 0 ≤ d → d + j = y / p ^ k % p → j < n → m_X4_rootOf_31 SM k11 n (ji i) (ji N) (jl (y % p ^ k)) (ji k) (jl (p ^ (k + 1))) (ji d) = k11 (ji i) (ji N) (jl (y % p ^ (k + 1))) (ji (k + 1 : Nat)) := by
  have hp := pk_p h
  have hK := pk_K h
  obtain ⟨n1, n2, n3⟩ := nextf hp.1 y k
  have b2 := pw_K h (show k + 1 ≤ K by omega)
  have b1 := pw_K h (show k ≤ K by omega)
  have e2 : ji (k : Int) + 1 = ji (k + 1 : Nat) := by rw [show (1 : Int32) = ji 1 from rfl, ji_add]; congr 1
  have e8 : (8 : Int32) * ji (i : Int) = ji (8 * i : Nat) := by rw [show (8 : Int32) = ji 8 from rfl, ji_mul]; congr 1
  have hy1 : p ^ (k + 1) ∣ hz c y 8 0 := Int.dvd_trans (pw_dvd p (by omega)) hy
  have l9 : lm 9 = 512 := by decide
  intro j
  induction j with
  | zero =>
    intro n d hd hdj hn
    obtain ⟨n, rfl⟩ : ∃ t, n = t + 1 := ⟨n - 1, by omega⟩
    obtain ⟨c1, c2, c3⟩ := bdf hp.1 (y := y) (k := k) hd (show d < p by omega)
    have ed : d = y / p ^ k % p := by omega
    have eX : y % p ^ k + d * p ^ k = y % p ^ (k + 1) := by rw [n1, ed]
    have ev : hz c (y % p ^ (k + 1)) 8 0 % p ^ (k + 1) = 0 := by
      have := hz_cong (c := c) (dv_mod (a := y) (m := p ^ (k + 1))) 8 0 0 ⟨0, by omega⟩
      have := Int.dvd_add this hy1
      rw [show hz c (y % p ^ (k + 1)) 8 0 - hz c y 8 0 + hz c y 8 0 = hz c (y % p ^ (k + 1)) 8 0 by omega] at this
      exact Int.emod_eq_zero_of_dvd this
    unfold m_X4_rootOf_31 m_X4_rootOf_68
    rw [if_neg (mf_oob h (show k ≤ K by omega)), if_neg (mf_oob h (show k ≤ K by omega)), mf_pw h hm (show k ≤ K by omega), ji_l ⟨by omega, by omega⟩, jl_mul, jl_add, e8, mf_valueAt (by decide) hc (by rw [l9]; omega) (by rw [l9]; omega) b2.1 b2.2 c1 ⟨by omega, by omega⟩, ho_s, eX, ev, if_pos jl00, e2]
  | succ j ih =>
    intro n d hd hdj hn
    obtain ⟨n, rfl⟩ : ∃ t, n = t + 1 := ⟨n - 1, by omega⟩
    obtain ⟨c1, c2, c3⟩ := bdf hp.1 (y := y) (k := k) hd (show d < p by omega)
    unfold m_X4_rootOf_31
    have m4 := em_lt (a := hz c (y % p ^ k + d * p ^ k) 8 0) b2.1
    rw [if_neg (mf_oob h (show k ≤ K by omega)), mf_pw h hm (show k ≤ K by omega), ji_l ⟨by omega, by omega⟩, jl_mul, jl_add, e8, mf_valueAt (by decide) hc (by rw [l9]; omega) (by rw [l9]; omega) b2.1 b2.2 c1 ⟨by omega, by omega⟩, ho_s, if_neg, show (1 : Int32) = ji 1 from rfl, ji_add]
    · exact ih n (d + 1) (by omega) (by omega) (by omega)
    · intro zz
      have z2 := (jl_eql (c := 0) (b := 0) ⟨by omega, by omega⟩ rfl (by decide)).mp zz
      have z3 := Int.dvd_of_emod_eq_zero z2
      have z4 := hens h z3 hy1 (dv_nextf hp.1 y d hk1) hyp
      have := onef hp.1 hd (show d < p by omega) z4
      omega
theorem ro_ref (h : pk p K) (hm : fm SM p K) {c : Nat → Int} {i : Nat} (hi : i < 64) (hc : cf8 (fun j => SM.1 9 (8 * i + j)) c) {N : Nat} {y : Int} (hN : N ≤ K) (hy : p ^ N ∣ hz c y 8 0) (hyp : ¬ p ∣ hz (sl c) y 7 0) (hy0 : 0 ≤ y) (hyN : y < p ^ N) : ∀ (j n k : Nat), k + j = N → 1 ≤ k → j < n → m_X4_rootOf_11 SM n (ji i) (ji N) (jl (y % p ^ k)) (ji k) = some (jl y) := by
  have hp := pk_p h
  have hK := pk_K h
  intro j
  induction j with
  | zero =>
    intro n k hk hk1 hn
    obtain ⟨n, rfl⟩ : ∃ t, n = t + 1 := ⟨n - 1, by omega⟩
    unfold m_X4_rootOf_11
    rw [if_pos ((ji_le ⟨by omega, by omega⟩ ⟨by omega, by omega⟩).mpr (by omega)), show k = N by omega, Int.emod_eq_of_lt hy0 hyN]
  | succ j ih =>
    intro n k hk hk1 hn
    obtain ⟨n, rfl⟩ : ∃ t, n = t + 1 := ⟨n - 1, by omega⟩
    obtain ⟨n1, n2, n3⟩ := nextf hp.1 y k
    have e2 : ji (k : Int) + 1 = ji (k + 1 : Nat) := by rw [show (1 : Int32) = ji 1 from rfl, ji_add]; congr 1
    unfold m_X4_rootOf_11
    rw [if_neg (fun q => by have := (ji_le (a := N) (b := k) ⟨by omega, by omega⟩ ⟨by omega, by omega⟩).mp q; omega), e2, if_neg (mf_oob h (show k + 1 ≤ K by omega)), mf_pw h hm (show k + 1 ≤ K by omega)]
    have := ro_in h hm hi hc hN hk1 (show k < N by omega) hy hyp (k11 := fun x1 x2 x3 x5 => m_X4_rootOf_11 SM n x1 x2 x3 x5) (y / p ^ k % p).toNat fu 0 (by omega) (by omega) (by rw [fu_v]; omega)
    rw [show (0 : Int32) = ji 0 from rfl, this]
    exact ih n (k + 1) (by omega) (by omega) (by omega)
/-- both find the same root and lay it alike -/
theorem root_both (h : pk p K) (hc : fc SC p K) (hm : fm SM p K) {r i ct : Nat} (hr : kc r = 2) (hi : i < 64) (hct : ct < 64) (hrd : rootd p SC SM r i) {N : Nat} (hN : N ≤ K) (hN1 : 1 ≤ N) : ∃ SC1 SM1 y v n u, m_X3_setRoot SC r (ji N) = some SC1 ∧ m_X4_rootOf SM (ji i) (ji N) = some (jl y) ∧ m_X4_settle SM (ji ct) (2 : Int32) (0 : Int32) (ji N) (jl y) = some SM1 ∧ bth p K SC1 SM1 r ct 2 v n u 0 1 ∧ 0 ≤ v ∧ v ≤ 60 ∧ frc SC SC1 r ∧ frm SM SM1 ct := by
  have hp := pk_p h
  have hK := pk_K h
  obtain ⟨f, c, a1, a2, a3, a4, a5, a6, a7⟩ := hrd
  obtain ⟨y, y1, y2, y3, y4, y5⟩ := cf_rootFrom h hc (kc_poly hr) a5 hN hN1 a3 a4 a7
  have hyp : ¬ p ∣ hz (sl c) y 7 0 := ndv (hz_cong y5 7 0 0 ⟨0, by omega⟩) (fun q => a7.2 (Int.emod_eq_zero_of_dvd q))
  have ef : y % p ^ 1 = f := by
    rw [pw1]
    have := em_lt (a := y) (show 0 < p by omega)
    refine eq_of_dv this.1 this.2 a3 a4 ?_
    have := Int.dvd_add (dv_mod (a := y) (m := p)) y5
    rwa [show y % p - y + (y - f) = y % p - f by omega] at this
  have hro := ro_ref h hm hi a6 hN y4 hyp y2 y3 (N - 1) fu 1 (by omega) (by omega) (by rw [fu_v]; omega)
  rw [ef, show ji ((1 : Nat) : Int) = 1 from rfl] at hro
  obtain ⟨S1, S2, v1, n1, u1, g1, g2, g3, g4, g5, g6, g7, g8, g9⟩ := fg_both h hc hm hr hct (v := 0) (k := 2) hN y2 y3 (by omega) (by omega) (by omega) (by omega)
  refine ⟨st_I S1 r 1 2, S2, y, v1, n1, u1, ?_, ?_, g2, ⟨⟨?_, ?_, ?_, ?_, fun q => by omega⟩, g4, g5⟩, by omega, by omega, ⟨fun q hq => ⟨?_, ?_⟩, ?_⟩, g7⟩
  · unfold m_X3_setRoot
    rw [if_pos hr, a1, y1, ho_s, show (0 : Int32) = ji 0 from rfl, g1, ho_s]
  · unfold m_X4_rootOf
    rw [if_neg (oobc hi), natc hi, a2, ji_l ⟨by omega, by omega⟩, hro]
  · simp [st_I]; rfl
  · simp [st_I]; exact g3.2.1
  · simp [st_I]; exact g3.2.2.1
  · exact g3.2.2.2.1
  · funext j; simp [st_I, hq]; exact congrFun (g6.1 q hq).1 j
  · exact (g6.1 q hq).2
  · simp [st_I]; exact g6.2
theorem rootd.imp_to {r i ct : Nat} (hd : rootd p SC SM r i) (g7 : frc SC SC1 r) (g8 : frm SM SM1 ct) : rootd p SC1 SM1 r i := by
  obtain ⟨f, cc, a1, a2, a3, a4, a5, a6, a7⟩ := hd
  exact ⟨f, cc, by rw [g7.2]; exact a1, by rw [(g8 8 i (by omega)).1]; exact a2, a3, a4, by rw [(g7.1 _ (by omega)).1]; exact a5, fun t ht => by show SM1.1 9 (8 * i + t) = ji (cc t) ∧ _; rw [(g8 9 _ (by omega)).1]; exact a6 t ht, a7⟩
theorem R_more (R : Rel SC SM) (x w : Int32) : ∃ r SC1 SM1, m_X3_more SC x w = some (r, SC1) ∧ m_X4_more SM x w = some (r, SM1) ∧ Rel SC1 SM1 := by
  have R0 := R
  obtain ⟨p, K, m, z, R⟩ := R
  obtain ⟨h1, h2, h3, h4, h5, h6, h7, h8, h9, h10, ⟨c, h11, h12⟩, h13⟩ := id R
  have hp := pk_p h1
  have hK := pk_K h1
  have hw := ri_of w
  unfold m_X3_more m_X4_more
  rcases fnd R x with ⟨e1, e2⟩ | ⟨i, hi, rfl, e1, e2⟩
  · rw [e1, e2, ho_s, ho_s, if_pos rfl]; exact ⟨_, _, _, rfl, rfl, R0⟩
  · obtain ⟨k, v, n, u, a, b, B, bv1, bv2, hrt⟩ := h13 i hi
    obtain ⟨r1, r2, r3, r4, r5, r6⟩ := vok_r h1 B.2.2
    have hi64 : i < 64 := by omega
    have hrx := kcV (show i < 63 by omega)
    rw [e1, e2, ho_s, ho_s, if_neg (show ¬ (1 : Int32) = 0 by decide), h3.2.1, ji_l (z := (K : Int)) ⟨by omega, by omega⟩, mf_in32 w 1 (jl K) 1 K rfl rfl (by decide) ⟨by omega, by omega⟩, ho_s]
    have ew : w = ji w.toInt := ji_of w
    generalize w.toInt = t at *
    subst ew
    simp only [if_neg (oobc hi64), natc hi64]
    rw [if_pos hrx, cs_noSure h1 h2 hw, ho_s, B.1.1, B.2.1.1]
    by_cases c3 : 1 ≤ t ∧ t ≤ K
    · rw [if_pos c3, if_pos rfl, if_pos c3, if_neg (show ¬ (1 : Int32) = 0 by decide)]
      by_cases q : k = 2
      · have k2 : ji k = 2 := by rw [q]; rfl
        obtain ⟨N, rfl⟩ : ∃ N : Nat, t = N := ⟨t.toNat, by omega⟩
        obtain ⟨SC1, SM1, y, v1, n1, u1, g1, g2, g3, g4, g5, g6, g7, g8⟩ := root_both h1 h2 h3 hrx hi64 hi64 (hrt q) (show N ≤ K by omega) (by omega)
        rw [if_pos k2, if_pos k2, g1, ho_s, g2, ho_s, g3, ho_s, g4.1.2.2.1, g4.2.1.2.2.1]
        refine ⟨_, _, _, rfl, rfl, p, K, m, z, h1, g7.fc (by omega) h2, g8.fm h3, h4, by rw [(g7.1 0 (by omega)).1]; exact h5, by rw [(g8 0 3 (by omega)).1]; exact h6, h7, by rw [(g7.1 0 (by omega)).1]; exact h8, by rw [(g8 0 4 (by omega)).1]; exact h9, h10, ⟨c, by rw [(g7.1 5 (by omega)).1]; exact h11, fun j hj => by rw [(g8 10 j (by omega)).1]; exact h12 j hj⟩, fun j hj => ?_⟩
        by_cases ej : j = i
        · subst ej
          refine ⟨2, v1, n1, u1, 0, 1, g4, by omega, g6, fun _ => ?_⟩
          obtain ⟨f, cc, a1, a2, a3, a4, a5, a6, a7⟩ := hrt q
          exact ⟨f, cc, by rw [g7.2]; exact a1, by rw [(g8 8 j (by omega)).1]; exact a2, a3, a4, by rw [(g7.1 _ (by omega)).1]; exact a5, fun t ht => by show SM1.1 9 (8 * j + t) = ji (cc t) ∧ _; rw [(g8 9 _ (by omega)).1]; exact a6 t ht, a7⟩
        · obtain ⟨k3, v3, n3, u3, x3, y3, d1, d2, d3, d4⟩ := h13 j hj
          exact ⟨k3, v3, n3, u3, x3, y3, d1.to (g7.1 _ (by omega)).1 (g7.1 _ (by omega)).2 (fun q _ _ => g8 q j (by omega)), d2, d3, fun q => (d4 q).to (g7.1 _ (by omega)).1 (g7.1 _ (by omega)).1 (g8 8 j (by omega)).1 (fun t _ => (g8 9 _ (by omega)).1)⟩
      · have k2 : ¬ ji k = 2 := fun zz => q ((ji_eql (c := 2) (b := 2) r1 rfl (by decide)).mp zz)
        rw [if_neg k2, if_neg k2]
        exact ⟨_, _, _, rfl, rfl, R0⟩
    · rw [if_neg c3, if_neg (show ¬ (1 : Int32) = 0 by decide), if_neg c3, if_pos rfl]
      exact ⟨_, _, _, rfl, rfl, R0⟩
/-- the reference keeps the polynomial -/
theorem rk_loop (hm3 : SM.1 0 3 = ji m) (hm : m < 60) {x1 x2 : Int32} : ∀ (k n : Nat) (T : St), k < n → k ≤ 8 → (∀ q j, ¬ (q = 9 ∧ 8 * m ≤ j) → T.1 q j = SM.1 q j) → T.2 = SM.2 → (∀ j, j < 8 - k → T.1 9 (8 * m + j) = SM.1 10 j) → ∃ T8, m_X4_root_58 n T x1 x2 (ji ((8 : Int) - k)) = m_X4_root_90 T8 x1 x2 ∧ (∀ q j, ¬ (q = 9 ∧ 8 * m ≤ j) → T8.1 q j = SM.1 q j) ∧ T8.2 = SM.2 ∧ ∀ j, j < 8 → T8.1 9 (8 * m + j) = SM.1 10 j := by
  intro k
  induction k with
  | zero =>
    intro n T hn _ h1 h2 h3
    obtain ⟨n, rfl⟩ : ∃ t, n = t + 1 := ⟨n - 1, by omega⟩
    unfold m_X4_root_58
    rw [if_pos (by decide)]
    exact ⟨T, rfl, h1, h2, h3⟩
  | succ k ih =>
    intro n T hn hk h1 h2 h3
    obtain ⟨n, rfl⟩ : ∃ t, n = t + 1 := ⟨n - 1, by omega⟩
    have r8 : ri ((8 : Int) - (k + 1 : Nat)) := ⟨by omega, by omega⟩
    have e1 : (8 : Int32) * T.1 0 3 + ji ((8 : Int) - (k + 1 : Nat)) = ji ((8 * m + (7 - k) : Nat) : Int) := by
      rw [h1 0 3 (by omega), hm3, show (8 : Int32) = ji 8 from rfl, ji_mul, ji_add]; congr 1; omega
    unfold m_X4_root_58
    rw [e1, if_neg (fun q => by have := (ji_ler (a := (8 : Int) - (k + 1 : Nat)) (c := 8) (b := 8) r8 rfl (by decide)).mp q; omega), if_neg (by rw [ji_oob r8]; omega), if_neg (by rw [ji_oob ⟨by omega, by omega⟩]; omega), ji_nat r8, ji_nat ⟨by omega, by omega⟩, show ((8 : Int) - (k + 1 : Nat)).toNat = 7 - k by omega, show (((8 * m + (7 - k) : Nat) : Int)).toNat = 8 * m + (7 - k) by omega, show (1 : Int32) = ji 1 from rfl, ji_add, show (8 : Int) - (k + 1 : Nat) + 1 = 8 - k by omega]
    refine ih n _ (by omega) (by omega) ?_ h2 ?_
    · intro q j hq
      simp only [st_I]
      rw [if_neg (by omega)]
      exact h1 q j hq
    · intro j hj
      by_cases ej : j = 7 - k
      · subst ej
        simp only [st_I]
        rw [if_pos ⟨trivial, trivial⟩]
        exact h1 10 _ (by omega)
      · simp only [st_I]
        rw [if_neg (by omega)]
        exact h3 j (by omega)
theorem R_root (R : Rel SC SM) (x w : Int32) : ∃ r SC1 SM1, m_X3_root SC x w = some (r, SC1) ∧ m_X4_root SM x w = some (r, SM1) ∧ Rel SC1 SM1 := by
  have R0 := R
  obtain ⟨p, K, m, z, R⟩ := R
  obtain ⟨h1, h2, h3, h4, h5, h6, h7, h8, h9, h10, ⟨c, h11, h12⟩, h13⟩ := id R
  have hp := pk_p h1
  have hK := pk_K h1
  have hx := ri_of x
  have hw := ri_of w
  unfold m_X3_root m_X4_root
  rw [h2.1, h3.1, h3.2.1, h6, show ji p - (1 : Int32) = ji (p - 1) from ji_sub p 1, ji_l (z := p - 1) ⟨by omega, by omega⟩, ji_l (z := (K : Int)) ⟨by omega, by omega⟩, mf_in32 x 0 (jl (p - 1)) 0 (p - 1) rfl rfl (by decide) ⟨by omega, by omega⟩, mf_in32 w 1 (jl K) 1 K rfl rfl (by decide) ⟨by omega, by omega⟩, ho_s, ho_s]
  have ex : x = ji x.toInt := ji_of x
  have ew : w = ji w.toInt := ji_of w
  generalize x.toInt = f at *
  generalize w.toInt = t at *
  subst ex ew
  by_cases c1 : f < 0
  · rw [if_pos ((ji_ltl (c := 0) (b := 0) hx rfl (by decide)).mpr c1), if_neg (show ¬ (0 ≤ f ∧ f ≤ p - 1) by omega), if_pos rfl]
    exact ⟨_, _, _, rfl, rfl, R0⟩
  rw [if_neg (fun q => c1 ((ji_ltl (c := 0) (b := 0) hx rfl (by decide)).mp q))]
  by_cases c2 : p ≤ f
  · rw [if_pos ((ji_le ⟨by omega, by omega⟩ hx).mpr c2), if_neg (show ¬ (0 ≤ f ∧ f ≤ p - 1) by omega), if_pos rfl]
    exact ⟨_, _, _, rfl, rfl, R0⟩
  rw [if_neg (fun q => c2 ((ji_le ⟨by omega, by omega⟩ hx).mp q)), if_pos (show 0 ≤ f ∧ f ≤ p - 1 by omega), if_neg (show ¬ (1 : Int32) = 0 by decide), cs_noSure h1 h2 hw, ho_s]
  by_cases c3 : 1 ≤ t ∧ t ≤ K
  · rw [if_pos c3, if_pos c3, if_pos rfl, if_neg (show ¬ (1 : Int32) = 0 by decide), (cs_isGood h1 h2 h11 (x := f) (by omega) (by omega)).1, ho_s]
    have g3 := mf_isFirst h1 h3 h12 (x := f) (by omega) (by omega) false
    simp only [Bool.false_eq_true, if_false, iff_false] at g3
    rw [g3, ho_s]
    by_cases c4 : hz c f 8 0 % p = 0 ∧ ¬ hz (sl c) f 7 0 % p = 0
    · simp only [if_pos c4, if_neg (show ¬ (1 : Int32) = 0 by decide)]
      obtain ⟨N, rfl⟩ : ∃ N : Nat, t = N := ⟨t.toNat, by omega⟩
      obtain ⟨SC0, hSC0⟩ : ∃ SC0, SC0 = st_R (st_I SC 126 7 (ji f)) 127 (va_cpy ((st_I SC 126 7 (ji f)).1 5) ((st_I SC 126 7 (ji f)).1 127) 0 0 8) := ⟨_, rfl⟩
      rw [← hSC0]
      have q7 : SC0.1 126 7 = ji f := by rw [hSC0]; simp [st_R, st_I]
      have q8 : ∀ j, j < 8 → SC0.1 127 j = SC.1 5 j := by
        intro j hj
        rw [hSC0]
        simp only [st_R, st_I, va_cpy]
        rw [if_pos trivial, if_pos (by omega)]
        simp
      have q9 : scC SC SC0 := by
        intro q hq
        rw [hSC0]
        constructor
        · funext j
          simp only [st_R, st_I]
          rw [if_neg (by omega), if_neg (by omega)]
        · rfl
      have cc : cf8 (SC0.1 (126 + 1)) c := fun j hj => by rw [q8 j hj]; exact h11 j hj
      -- the root, once the reference holds what it keeps
      have fin : ∀ (T : St), fm T p K → T.1 8 m = ji f → (∀ j, j < 8 → T.1 9 (8 * m + j) = SM.1 10 j) → m < 64 → rootd p SC0 T 126 m := by
        intro T _ t2 t3 _
        exact ⟨f, c, q7, t2, by omega, by omega, cc, fun j hj => by show T.1 9 (8 * m + j) = ji (c j) ∧ _; rw [t3 j hj]; exact h12 j hj, c4⟩
      by_cases c5 : m = 60
      · rw [if_pos (by rw [c5]; rfl)]
        -- the class reckons it all the same
        obtain ⟨T, hT⟩ : ∃ T : St, T = ((fun q j => if q = 8 ∧ j = 60 then ji f else if q = 9 then SM.1 10 (j - 480) else SM.1 q j), SM.2) := ⟨_, rfl⟩
        have t2 : T.1 8 m = ji f := by rw [hT]; dsimp only; rw [if_pos ⟨rfl, c5⟩]
        have t3 : ∀ j, j < 8 → T.1 9 (8 * m + j) = SM.1 10 j := by
          intro j hj
          rw [hT]; dsimp only; rw [if_neg (by omega), if_pos rfl, show 8 * m + j - 480 = j by omega]
        have t1 : fm T p K := by rw [hT]; exact ⟨by simp; exact h3.1, by simp; exact h3.2.1, h3.2.2⟩
        obtain ⟨SC1, SM1, y, v1, n1, u1, g1, g2, g3, g4, g5, g6, g7, g8⟩ := root_both (SC := SC0) h1 (q9.fc h2) t1 (r := 126) (by decide) (i := m) (ct := 60) (by omega) (by omega) (fin T t1 t2 t3 (by omega)) (show N ≤ K by omega) (by omega)
        rw [g1, ho_s, kp_full (R.sc (q9.tr (g7.sc (by omega))) scM.rf) c5 (by decide)]
        exact ⟨_, _, _, rfl, rfl, p, K, m, z, R.sc (q9.tr (g7.sc (by omega))) scM.rf⟩
      · rw [if_neg (fun q => c5 (by have := (ji_eql (a := m) (c := 60) (b := 60) ⟨by omega, by omega⟩ rfl (by decide)).mp q; omega))]
        obtain ⟨T8, s1, s2, s3, s4⟩ := rk_loop h6 (show m < 60 by omega) (x1 := ji f) (x2 := ji N) 8 fu SM (by rw [fu_v]; omega) (by omega) (fun _ _ _ => rfl) rfl (fun j hj => by omega)
        rw [show (8 : Int) - ((8 : Nat) : Int) = 0 by omega, show ji 0 = 0 from rfl] at s1
        rw [s1]
        unfold m_X4_root_90
        have e03 : T8.1 0 3 = ji m := by rw [s2 0 3 (by omega)]; exact h6
        have em : (st_I T8 8 m (ji f)).1 0 3 = ji m := by simp [st_I]; exact e03
        rw [e03, if_neg (oobc (show m < 64 by omega)), natc (show m < 64 by omega), em]
        have t1 : fm (st_I T8 8 m (ji f)) p K := ⟨by simp [st_I]; rw [s2 0 0 (by omega)]; exact h3.1, by simp [st_I]; rw [s2 0 1 (by omega)]; exact h3.2.1, fun j hj => by show T8.2 1 j = _; rw [s3]; exact h3.2.2 j hj⟩
        obtain ⟨SC1, SM1, y, v1, n1, u1, g1, g2, g3, g4, g5, g6, g7, g8⟩ := root_both (SC := SC0) h1 (q9.fc h2) t1 (r := 126) (by decide) (i := m) (ct := 60) (by omega) (by omega) (fin _ t1 (by simp [st_I]) (fun j hj => by simp [st_I]; exact s4 j hj) (by omega)) (show N ≤ K by omega) (by omega)
        rw [g1, ho_s, g2, ho_s, show (60 : Int32) = ji (60 : Nat) from rfl, g3, ho_s]
        have sR : scR m SM SM1 := by
          refine scR.tr (SM1 := st_I T8 8 m (ji f)) ⟨fun q j a1 a2 a3 a4 => ?_, fun q j a1 a2 a3 => ?_⟩ (scM.scR (g8.sc (by omega)))
          · simp only [st_I]
            rw [if_neg (by omega)]
            exact s2 q j (by omega)
          · show T8.2 q j = _; rw [s3]
        have Rs := R.scr (q9.tr (g7.sc (by omega))) sR
        have hrd : rootd p SC1 SM1 126 m := (fin _ t1 (by simp [st_I]) (fun j hj => by simp [st_I]; exact s4 j hj) (by omega)).imp_to g7 g8
        obtain ⟨SC2, SM2, k1, k2, k3⟩ := kp_both Rs (by omega) (r := 126) (c := 60) (by decide) (by omega) (by omega) (by omega) g4 ⟨by omega, g6⟩ (fun _ => hrd)
        rw [k1, k2]
        exact ⟨_, _, _, rfl, rfl, p, K, m + 1, 1, k3⟩
    · simp only [if_neg c4, if_pos (show (0 : Int32) = 0 from rfl)]
      exact ⟨_, _, _, rfl, rfl, R0⟩
  · rw [if_neg c3, if_neg c3, if_neg (show ¬ (1 : Int32) = 0 by decide), if_pos rfl]
    exact ⟨_, _, _, rfl, rfl, R0⟩
end
