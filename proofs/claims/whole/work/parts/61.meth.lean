/-! the methods, one by one: both answer alike -/
section
variable {SC SM : St}
theorem R_kind (R : Rel SC SM) (x : Int32) : ∃ r, m_X3_kind SC x = some r ∧ m_X4_kind SM x = some r := by
  obtain ⟨p, K, m, z, R⟩ := R
  have hm := R.2.2.2.1
  unfold m_X3_kind m_X4_kind
  rcases fnd R x with ⟨e1, e2⟩ | ⟨i, hi, rfl, e1, e2⟩
  · rw [e1, e2]; exact ⟨_, rfl, rfl⟩
  · obtain ⟨k, v, n, u, a, b, B, -⟩ := R.2.2.2.2.2.2.2.2.2.2.2 i hi
    rw [e1, e2, ho_s, ho_s, if_neg (by decide), if_neg (oobc (show i < 64 by omega)), natc (show i < 64 by omega)]
    dsimp only
    rw [if_pos (kcV (by omega)), B.1.1, B.2.1.1]
    exact ⟨_, rfl, rfl⟩
theorem R_lift (R : Rel SC SM) (x : Int32) : ∃ r, m_X3_lift SC x = some r ∧ m_X4_lift SM x = some r := by
  obtain ⟨p, K, m, z, R⟩ := R
  have hm := R.2.2.2.1
  unfold m_X3_lift m_X4_lift
  rcases fnd R x with ⟨e1, e2⟩ | ⟨i, hi, rfl, e1, e2⟩
  · rw [e1, e2]; exact ⟨_, rfl, rfl⟩
  · obtain ⟨k, v, n, u, a, b, B, -⟩ := R.2.2.2.2.2.2.2.2.2.2.2 i hi
    rw [e1, e2, ho_s, ho_s, if_neg (by decide), if_neg (oobc (show i < 64 by omega)), natc (show i < 64 by omega)]
    dsimp only
    rw [if_pos (kcV (by omega)), B.1.2.1, B.2.1.2.1]
    exact ⟨_, rfl, rfl⟩
theorem R_sure (R : Rel SC SM) (x : Int32) : ∃ r, m_X3_sure SC x = some r ∧ m_X4_sure SM x = some r := by
  obtain ⟨p, K, m, z, R⟩ := R
  have hm := R.2.2.2.1
  unfold m_X3_sure m_X4_sure
  rcases fnd R x with ⟨e1, e2⟩ | ⟨i, hi, rfl, e1, e2⟩
  · rw [e1, e2]; exact ⟨_, rfl, rfl⟩
  · obtain ⟨k, v, n, u, a, b, B, -⟩ := R.2.2.2.2.2.2.2.2.2.2.2 i hi
    rw [e1, e2, ho_s, ho_s, if_neg (by decide), if_neg (oobc (show i < 64 by omega)), natc (show i < 64 by omega)]
    dsimp only
    rw [if_pos (kcV (by omega)), B.1.2.2.1, B.2.1.2.2.1]
    exact ⟨_, rfl, rfl⟩
theorem R_told (R : Rel SC SM) (x : Int32) : ∃ r, m_X3_told SC x = some r ∧ m_X4_told SM x = some r := by
  obtain ⟨p, K, m, z, R⟩ := R
  have hm := R.2.2.2.1
  unfold m_X3_told m_X4_told
  rcases fnd R x with ⟨e1, e2⟩ | ⟨i, hi, rfl, e1, e2⟩
  · rw [e1, e2]; exact ⟨_, rfl, rfl⟩
  · obtain ⟨k, v, n, u, a, b, B, -⟩ := R.2.2.2.2.2.2.2.2.2.2.2 i hi
    rw [e1, e2, ho_s, ho_s, if_neg (by decide), if_neg (oobc (show i < 64 by omega)), natc (show i < 64 by omega)]
    dsimp only
    rw [if_pos (kcV (by omega)), B.1.2.2.2.1, B.2.1.2.2.2.1]
    exact ⟨_, rfl, rfl⟩
theorem mf_in32 (x : Int32) (b c : Int64) (y z : Int) (hb : b = jl y) (hc : c = jl z) (ry : rl y) (rz : rl z) : m_X4_in x.toInt64 b c = some (if y ≤ x.toInt ∧ x.toInt ≤ z then 1 else 0) := by
  have hx := ri_of x
  have e : x.toInt64 = jl x.toInt := by
    have := ji_l hx
    rwa [← ji_of] at this
  rw [e, hb, hc, mf_in ⟨by omega, by omega⟩ ry rz]
theorem R_part (R : Rel SC SM) (x y : Int32) : ∃ r, m_X3_part SC x y = some r ∧ m_X4_part SM x y = some r := by
  obtain ⟨p, K, m, z, R⟩ := R
  have hm := R.2.2.2.1
  unfold m_X3_part m_X4_part
  rcases fnd R x with ⟨e1, e2⟩ | ⟨i, hi, rfl, e1, e2⟩
  · rw [e1, e2]; exact ⟨_, rfl, rfl⟩
  · obtain ⟨k, v, n, u, a, b, B, -⟩ := R.2.2.2.2.2.2.2.2.2.2.2 i hi
    obtain ⟨r1, r2, r3, r4, r5, r6⟩ := vok_r R.1 B.2.2
    have hy := ri_of y
    have ey : y = ji y.toInt := ji_of y
    rw [e1, e2, ho_s, ho_s, if_neg (by decide), mf_in32 y 0 1 0 1 rfl rfl (by decide) (by decide), ho_s]
    simp only [if_neg (oobc (show i < 64 by omega)), natc (show i < 64 by omega)]
    rw [if_pos (kcV (by omega)), B.1.1, B.2.1.1]
    generalize y.toInt = w at *
    subst ey
    by_cases c1 : w < 0
    · rw [if_pos ((ji_ltl (c := 0) (b := 0) hy rfl (by decide)).mpr c1), if_neg (show ¬ (0 ≤ w ∧ w ≤ 1) by omega)]
      exact ⟨_, rfl, rfl⟩
    · rw [if_neg (fun q => c1 ((ji_ltl (c := 0) (b := 0) hy rfl (by decide)).mp q))]
      by_cases c2 : 1 < w
      · rw [if_pos ((ji_ltr (c := 1) (b := 1) hy rfl (by decide)).mpr c2), if_neg (show ¬ (0 ≤ w ∧ w ≤ 1) by omega)]
        exact ⟨_, rfl, rfl⟩
      · rw [if_neg (fun q => c2 ((ji_ltr (c := 1) (b := 1) hy rfl (by decide)).mp q)), if_pos (show 0 ≤ w ∧ w ≤ 1 by omega), if_neg (show ¬ (1 : Int32) = 0 by decide)]
        by_cases q : k = 1
        · have k1 : ji k = 1 := by rw [q]; rfl
          rw [if_pos k1, if_pos k1, (B.1.2.2.2.2 q).1, (B.1.2.2.2.2 q).2, (B.2.1.2.2.2.2 q).1, (B.2.1.2.2.2.2 q).2, jl_i, jl_i]
          by_cases c3 : ji w = 0
          · simp only [if_pos c3]; exact ⟨_, rfl, rfl⟩
          · simp only [if_neg c3]; exact ⟨_, rfl, rfl⟩
        · have k1 : ¬ ji k = 1 := fun z => q ((ji_eql (c := 1) (b := 1) r1 rfl (by decide)).mp z)
          rw [if_neg k1, if_neg k1]; exact ⟨_, rfl, rfl⟩
theorem R_count (R : Rel SC SM) (x : Int32) : ∃ r, m_X3_count SC x = some r ∧ m_X4_count SM x = some r := by
  obtain ⟨p, K, m, z, h1, h2, h3, h4, h5, h6, h7, h8, h9, -⟩ := R
  unfold m_X3_count m_X4_count
  rw [h2.1, h2.2.1, h3.1, h3.2.1, h5, h6, h8, h9]
  by_cases c0 : x = 0
  · simp only [if_pos c0]; exact ⟨_, rfl, rfl⟩
  simp only [if_neg c0]
  by_cases c1 : x = 1
  · simp only [if_pos c1]; exact ⟨_, rfl, rfl⟩
  simp only [if_neg c1]
  by_cases c2 : x = 2
  · simp only [if_pos c2]; exact ⟨_, rfl, rfl⟩
  simp only [if_neg c2]
  by_cases c3 : x = 3
  · simp only [if_pos c3]
    by_cases q : ji z = 0
    · simp only [if_pos q]; exact ⟨_, rfl, rfl⟩
    · simp only [if_neg q]; exact ⟨_, rfl, rfl⟩
  simp only [if_neg c3]
  exact ⟨_, rfl, rfl⟩
theorem R_undo (R : Rel SC SM) : ∃ r SC1 SM1, m_X3_undo SC = some (r, SC1) ∧ m_X4_undo SM = some (r, SM1) ∧ Rel SC1 SM1 := by
  obtain ⟨p, K, m, z, R⟩ := R
  obtain ⟨h1, h2, h3, h4, h5, h6, h7, h8, h9, h10, ⟨c, h11, h12⟩, h13⟩ := id R
  unfold m_X3_undo m_X4_undo
  rw [h8, h9, h5]
  rcases h7 with rfl | rfl
  · simp only [if_pos (show ji 0 = 0 from rfl)]
    exact ⟨_, _, _, rfl, rfl, p, K, m, 0, R⟩
  · have hm := h10 rfl
    simp only [if_neg (show ¬ ji 1 = 0 by decide)]
    rw [if_pos ((ji_ler (a := m) (c := 1) (b := 1) ⟨by omega, by omega⟩ rfl (by decide)).mpr (by omega))]
    have e1 : (st_I SC 0 8 (0 : Int32)).1 0 7 - (1 : Int32) = ji ((m - 1 : Nat) : Int) := by
      rw [st_In SC _ (by omega), h5, show (1 : Int32) = ji 1 from rfl, ji_sub]; congr 1; omega
    have e2 : (st_I SM 0 4 (0 : Int32)).1 0 3 - (1 : Int32) = ji ((m - 1 : Nat) : Int) := by
      rw [st_In SM _ (by omega), h6, show (1 : Int32) = ji 1 from rfl, ji_sub]; congr 1; omega
    rw [e1, e2, st_I1, st_I1]
    have CC : ∀ q, q ≠ 0 → (st_I (st_I SC 0 8 (0 : Int32)) 0 7 (ji ((m - 1 : Nat) : Int))).1 q = SC.1 q := by
      intro q hq; funext j; simp [st_I, hq]
    have MM : ∀ q j, q ≠ 0 → (st_I (st_I SM 0 4 (0 : Int32)) 0 3 (ji ((m - 1 : Nat) : Int))).1 q j = SM.1 q j := by
      intro q j hq; simp [st_I, hq]
    refine ⟨_, _, _, rfl, rfl, p, K, m - 1, 0, h1, ⟨by rw [CC 1 (by omega)]; exact h2.1, by rw [CC 1 (by omega)]; exact h2.2.1, h2.2.2⟩, ⟨by simp [st_I]; exact h3.1, by simp [st_I]; exact h3.2.1, h3.2.2⟩, by omega, by simp [st_I], by simp [st_I], Or.inl rfl, by simp [st_I]; rfl, by simp [st_I]; rfl, (fun q => by omega), ⟨c, by rw [CC 5 (by omega)]; exact h11, fun j hj => by rw [MM 10 j (by omega)]; exact h12 j hj⟩, fun i hi => ?_⟩
    obtain ⟨k, v, n, u, a, b, d1, d2, d3, d4⟩ := h13 i (by omega)
    exact ⟨k, v, n, u, a, b, d1.to (CC _ (by omega)) rfl (fun q _ _ => ⟨MM q i (by omega), rfl⟩), d2, d3, fun q => (d4 q).to (CC _ (by omega)) (CC _ (by omega)) (MM 8 i (by omega)) (fun j _ => MM 9 _ (by omega))⟩
theorem cs_tooGreat {a b : Int} (ha : ri a) (hb : 0 ≤ b) (hb2 : b < 2147483648) : m_X3_isTooGreat (ji a) (ji b) = some (if -b ≤ a ∧ a ≤ b then 0 else 1) := by
  unfold m_X3_isTooGreat m_X3_isTooGreat_11
  rw [ji_neg]
  by_cases c1 : b < a
  · rw [if_pos ((ji_lt ⟨by omega, by omega⟩ ha).mpr c1), if_neg (by omega)]
  · rw [if_neg (fun q => c1 ((ji_lt ⟨by omega, by omega⟩ ha).mp q))]
    by_cases c2 : -b ≤ a
    · rw [if_pos ((ji_le ⟨by omega, by omega⟩ ha).mpr c2), if_pos (by omega)]
    · rw [if_neg (fun q => c2 ((ji_le ⟨by omega, by omega⟩ ha).mp q)), if_neg (by omega)]
theorem R_coefficient (R : Rel SC SM) (x y : Int32) : ∃ r SC1 SM1, m_X3_coefficient SC x y = some (r, SC1) ∧ m_X4_coefficient SM x y = some (r, SM1) ∧ Rel SC1 SM1 := by
  have R0 := R
  obtain ⟨p, K, m, z, R⟩ := R
  obtain ⟨h1, h2, h3, h4, h5, h6, h7, h8, h9, h10, ⟨c, h11, h12⟩, h13⟩ := id R
  have hx := ri_of x
  have hy := ri_of y
  unfold m_X3_coefficient m_X4_coefficient
  rw [mf_in32 x 0 7 0 7 rfl rfl (by decide) (by decide), mf_in32 y (-1000000) 1000000 (-1000000) 1000000 rfl rfl (by decide) (by decide), ho_s, ho_s]
  have ex : x = ji x.toInt := ji_of x
  have ey : y = ji y.toInt := ji_of y
  generalize x.toInt = i at *
  generalize y.toInt = w at *
  subst ex ey
  by_cases c1 : i < 0
  · rw [if_pos ((ji_ltl (c := 0) (b := 0) hx rfl (by decide)).mpr c1), if_neg (show ¬ (0 ≤ i ∧ i ≤ 7) by omega), if_pos rfl]
    exact ⟨_, _, _, rfl, rfl, R0⟩
  rw [if_neg (fun q => c1 ((ji_ltl (c := 0) (b := 0) hx rfl (by decide)).mp q))]
  by_cases c2 : 8 ≤ i
  · rw [if_pos ((ji_ler (c := 8) (b := 8) hx rfl (by decide)).mpr c2), if_neg (show ¬ (0 ≤ i ∧ i ≤ 7) by omega), if_pos rfl]
    exact ⟨_, _, _, rfl, rfl, R0⟩
  rw [if_neg (fun q => c2 ((ji_ler (c := 8) (b := 8) hx rfl (by decide)).mp q)), if_pos (show 0 ≤ i ∧ i ≤ 7 by omega), if_neg (show ¬ (1 : Int32) = 0 by decide), show (1000000 : Int32) = ji 1000000 from rfl, cs_tooGreat hy (by decide) (by decide), ho_s]
  by_cases c3 : -1000000 ≤ w ∧ w ≤ 1000000
  · rw [if_pos c3, if_pos c3, if_pos rfl, if_neg (show ¬ (1 : Int32) = 0 by decide)]
    obtain ⟨j, rfl⟩ : ∃ j : Nat, i = j := ⟨i.toNat, by omega⟩
    have no : ¬ oob (ji (j : Int)) 8 := by rw [ji_oob hx]; omega
    simp only [if_neg no]
    rw [ji_nat hx, show ((j : Int)).toNat = j by omega]
    have ej : SC.1 5 j = SM.1 10 j := by rw [(h11 j (by omega)).1, (h12 j (by omega)).1]
    rw [ej]
    have CC : ∀ q, q ≠ 5 → (st_I SC 5 j (ji w)).1 q = SC.1 q := by intro q hq; funext t; simp [st_I, hq]
    have MM : ∀ q t, q ≠ 10 → (st_I SM 10 j (ji w)).1 q t = SM.1 q t := by intro q t hq; simp [st_I, hq]
    refine ⟨_, _, _, rfl, rfl, p, K, m, z, h1, ⟨by rw [CC 1 (by omega)]; exact h2.1, by rw [CC 1 (by omega)]; exact h2.2.1, h2.2.2⟩, ⟨by rw [MM _ _ (by omega)]; exact h3.1, by rw [MM _ _ (by omega)]; exact h3.2.1, h3.2.2⟩, h4, by rw [CC 0 (by omega)]; exact h5, by rw [MM _ _ (by omega)]; exact h6, h7, by rw [CC 0 (by omega)]; exact h8, by rw [MM _ _ (by omega)]; exact h9, h10, ⟨fun t => if t = j then w else c t, ?_, ?_⟩, fun i hi => ?_⟩
    · intro t ht
      by_cases q : t = j
      · subst q; simp [st_I]; exact c3
      · simp [st_I, q]; exact h11 t ht
    · intro t ht
      by_cases q : t = j
      · subst q; simp [st_I]; exact c3
      · simp [st_I, q]; exact h12 t ht
    · obtain ⟨k, v, n, u, a, b, d1, d2, d3, d4⟩ := h13 i (by omega)
      exact ⟨k, v, n, u, a, b, d1.to (CC _ (by omega)) rfl (fun q _ _ => ⟨MM q i (by omega), rfl⟩), d2, d3, fun q => (d4 q).to (CC _ (by omega)) (CC _ (by omega)) (MM 8 i (by omega)) (fun j _ => MM 9 _ (by omega))⟩
  · rw [if_neg c3, if_neg c3, if_neg (show ¬ (1 : Int32) = 0 by decide), if_pos rfl]
    exact ⟨_, _, _, rfl, rfl, R0⟩
/-! what is made is kept -/
theorem kp_all {SC0 SM0 : St} {p : Int} {K m : Nat} {z : Int} (R : RelP p K m z SC0 SM0) (hC : scC SC0 SC) (hM : scM SM0 SM) (hm : m ≠ 60) {k v u a b : Int} {n : Nat} (B : bth p K SC SM 126 60 k v n u a b) (bv : -60 ≤ v ∧ v ≤ 60) (hk : k ≠ 2) : ∃ r SC1 SM1, bd2 (m_X3_keep SC 126) (fun r_2 S_2 => some (r_2, S_2)) = some (r, SC1) ∧ bd2 (m_X4_keep SM (60 : Int32)) (fun r_8 S_8 => some (r_8, S_8)) = some (r, SM1) ∧ Rel SC1 SM1 := by
  have h4 := R.2.2.2.1
  obtain ⟨SC1, SM1, e1, e2, e3⟩ := kp_both (R.sc hC hM) (by omega) (r := 126) (c := 60) (by decide) (by omega) (by omega) (by omega) B bv (fun q => absurd q hk)
  rw [show (60 : Int32) = ji (60 : Nat) from rfl, e1, e2]
  exact ⟨_, _, _, rfl, rfl, p, K, m + 1, 1, e3⟩
theorem R_ratio (R : Rel SC SM) (x y : Int32) : ∃ r SC1 SM1, m_X3_ratio SC x y = some (r, SC1) ∧ m_X4_ratio SM x y = some (r, SM1) ∧ Rel SC1 SM1 := by
  have R0 := R
  obtain ⟨p, K, m, z, R⟩ := R
  obtain ⟨h1, h2, h3, h4, h5, h6, -⟩ := id R
  have hx := ri_of x
  have hy := ri_of y
  unfold m_X3_ratio m_X4_ratio
  rw [mf_in32 x (-1000000000) 1000000000 (-1000000000) 1000000000 rfl rfl (by decide) (by decide), mf_in32 y (-1000000000) 1000000000 (-1000000000) 1000000000 rfl rfl (by decide) (by decide), ho_s, ho_s]
  have ex : x = ji x.toInt := ji_of x
  have ey : y = ji y.toInt := ji_of y
  generalize x.toInt = a at *
  generalize y.toInt = b at *
  subst ex ey
  by_cases c0 : ji b = 0
  · simp only [if_pos c0]; exact ⟨_, _, _, rfl, rfl, R0⟩
  have b0 : b ≠ 0 := fun q => c0 (by rw [q]; rfl)
  simp only [if_neg c0]
  rw [show (1000000000 : Int32) = ji 1000000000 from rfl, cs_tooGreat hx (by decide) (by decide), cs_tooGreat hy (by decide) (by decide), ho_s, ho_s]
  by_cases c1 : -1000000000 ≤ a ∧ a ≤ 1000000000
  · rw [if_pos c1, if_pos c1, if_pos rfl, if_neg (show ¬ (1 : Int32) = 0 by decide)]
    by_cases c2 : -1000000000 ≤ b ∧ b ≤ 1000000000
    · rw [if_pos c2, if_pos c2, if_pos rfl, if_neg (show ¬ (1 : Int32) = 0 by decide), ji_l hx, ji_l hy, h6]
      obtain ⟨S1, S2, k, v, n, u, ka, kb, e1, e2, e3, e4, e5, e6, e7, e8, e9⟩ := frac_both h1 h2 h3 (rt := 126) (ct := 60) (by decide) (by omega) (up := a) (low := b) b0 (by omega) (by omega)
      rw [e1, ho_s]
      by_cases c3 : m = 60
      · rw [if_pos (by rw [c3]; rfl), kp_full (R.sc (e4.sc (by omega)) scM.rf) c3 (by decide)]
        exact ⟨_, _, _, rfl, rfl, p, K, m, z, R.sc (e4.sc (by omega)) scM.rf⟩
      · rw [if_neg (fun q => c3 (by have := (ji_eql (c := 60) (b := 60) (a := m) ⟨by omega, by omega⟩ rfl (by decide)).mp q; omega)), show (60 : Int32) = ji (60 : Nat) from rfl, e2, ho_s]
        -- a RATIO it is: its parts are small
        obtain ⟨d, x2, y2, d1, d2, d3, d4, d5, d6⟩ := red_ex (up := a) b0
        obtain ⟨q1, q2⟩ := red_uniq b0 e8 d6
        have hka : ka.natAbs ≤ 1000000000 := by
          have : x2.natAbs ≤ a.natAbs := by
            rw [d4, Int.natAbs_mul]
            have := Nat.mul_le_mul_right x2.natAbs (show 1 ≤ d.natAbs by omega)
            omega
          omega
        have hkb : kb ≤ 1000000000 := by
          have : y2.natAbs ≤ b.natAbs := by
            rw [d5, Int.natAbs_mul]
            have := Nat.mul_le_mul_right y2.natAbs (show 1 ≤ d.natAbs by omega)
            omega
          omega
        have hk1 : k = 1 := by rw [e9, if_pos ⟨hka, hkb⟩]
        have hv := e3.2.2.2.2.2.2.2.2.2.1 hk1
        exact kp_all R (e4.sc (by omega)) (e5.sc (by omega)) c3 e3 ⟨hv.2.2.2.2.2.1, hv.2.2.2.2.2.2.1⟩ (by omega)
    · rw [if_neg c2, if_neg c2, if_neg (show ¬ (1 : Int32) = 0 by decide), if_pos rfl]
      exact ⟨_, _, _, rfl, rfl, R0⟩
  · rw [if_neg c1, if_neg c1, if_neg (show ¬ (1 : Int32) = 0 by decide), if_pos rfl]
    exact ⟨_, _, _, rfl, rfl, R0⟩
end
