section
variable {SC SM : St}
theorem bd2_s {α β : Type} {x : α} {S : St} {f : α → St → Option β} : bd2 (some (x, S)) f = f x S := rfl
theorem R_of (R : Rel SC SM) (w x y : Int32) : ∃ r SC1 SM1, m_X3_of SC w x y = some (r, SC1) ∧ m_X4_of SM w x y = some (r, SM1) ∧ Rel SC1 SM1 := by
  have R0 := R
  obtain ⟨p, K, m, z, R⟩ := R
  obtain ⟨h1, h2, h3, h4, h5, h6, -⟩ := id R
  have hw := ri_of w
  unfold m_X3_of m_X4_of
  rw [mf_in32 w 0 3 0 3 rfl rfl (by decide) (by decide), ho_s]
  have ew : w = ji w.toInt := ji_of w
  generalize w.toInt = t at *
  subst ew
  -- a way that is none, or a number that isn't there
  have bad : ∀ q : Option (Int32 × St), q = some (-2, SC) → (if ji t < 0 then q else if (3 : Int32) < ji t then q else q) = some (-2, SC) := by
    intro q hq; split
    · exact hq
    · split <;> exact hq
  rcases fnd R x with ⟨e1, e2⟩ | ⟨i, hi, rfl, e1, e2⟩
  · have ec : ∃ q, (m_X4_isNumber SM x) = some q ∧ q = 0 := ⟨0, e2, rfl⟩
    have em : (if (if 0 ≤ t ∧ t ≤ 3 then (1 : Int32) else 0) = 0 then some ((-2 : Int32), SM) else (m_X4_isNumber SM x).bind (fun r_3 => if r_3 = 0 then (some ((-2 : Int32), SM)) else ((m_X4_isNumber SM y).bind (fun r_5 => if r_5 = 0 then (some ((-2 : Int32), SM)) else (bd2 (m_X4_reckon SM (ji t) x y (60 : Int32)) (fun r_7 S_7 => if r_7 = (-4 : Int32) then (some ((-4 : Int32), S_7)) else (if (S_7.1 0 3) = (60 : Int32) then (some ((-6 : Int32), S_7)) else (if 0 ≤ r_7 then (bd2 (m_X4_keep S_7 (60 : Int32)) (fun r_11 S_11 => some (r_11, S_11))) else (some (r_7, S_7)))))))))) = some (-2, SM) := by
      rw [e2, ho_s, if_pos rfl]; split <;> rfl
    rw [em, e1, ho_s]
    dsimp only
    rcases fnd R y with ⟨f1, f2⟩ | ⟨j, hj, rfl, f1, f2⟩
    · rw [f1, ho_s]; dsimp only; rw [bad _ rfl]; exact ⟨_, _, _, rfl, rfl, R0⟩
    · rw [f1, ho_s]; dsimp only; rw [if_pos (kcV (by omega)), bad _ rfl]; exact ⟨_, _, _, rfl, rfl, R0⟩
  · have hi64 : i < 64 := by omega
    have hrx := kcV (show i < 63 by omega)
    rw [e1, e2, ho_s, ho_s, if_neg (show ¬ (1 : Int32) = 0 by decide)]
    dsimp only
    rw [if_pos hrx]
    rcases fnd R y with ⟨f1, f2⟩ | ⟨j, hj, rfl, f1, f2⟩
    · rw [f1, f2, ho_s, ho_s, if_pos rfl]
      dsimp only
      rw [bad _ rfl]
      exact ⟨_, _, _, rfl, by split <;> rfl, R0⟩
    · have hj64 : j < 64 := by omega
      have hry := kcV (show j < 63 by omega)
      rw [f1, f2, ho_s, ho_s, if_neg (show ¬ (1 : Int32) = 0 by decide)]
      dsimp only
      rw [if_pos hry]
      by_cases c1 : t < 0
      · rw [if_pos ((ji_ltl (c := 0) (b := 0) hw rfl (by decide)).mpr c1), if_neg (show ¬ (0 ≤ t ∧ t ≤ 3) by omega), if_pos rfl]
        exact ⟨_, _, _, rfl, rfl, R0⟩
      rw [if_neg (fun q => c1 ((ji_ltl (c := 0) (b := 0) hw rfl (by decide)).mp q))]
      by_cases c2 : 3 < t
      · rw [if_pos ((ji_ltr (c := 3) (b := 3) hw rfl (by decide)).mpr c2), if_neg (show ¬ (0 ≤ t ∧ t ≤ 3) by omega), if_pos rfl]
        exact ⟨_, _, _, rfl, rfl, R0⟩
      rw [if_neg (fun q => c2 ((ji_ltr (c := 3) (b := 3) hw rfl (by decide)).mp q)), if_pos (show 0 ≤ t ∧ t ≤ 3 by omega), if_neg (show ¬ (1 : Int32) = 0 by decide)]
      obtain ⟨kx, vx, nx, ux, ax, bx, X, xv1, xv2, -⟩ := R.2.2.2.2.2.2.2.2.2.2.2 i hi
      obtain ⟨ky, vy, ny, uy, ay, by_, Y, yv1, yv2, -⟩ := R.2.2.2.2.2.2.2.2.2.2.2 j hj
      by_cases cz : t = 3 ∧ (ngt ky ny ∨ zro ky ay)
      · -- ZERO
        have t3 : ji t = 3 := by rw [cz.1]; rfl
        have emr : m_X4_reckon SM (ji t) (ji i) (ji j) (60 : Int32) = some (-4, SM) := by
          unfold m_X4_reckon
          rw [if_pos t3, ms_nought h1 hj64 Y.2.1 Y.2.2, ho_s]
          by_cases q : ngt ky ny
          · rw [if_pos q, if_neg (by decide)]
          · rw [if_neg q, if_pos rfl, ms_zero h1 hj64 Y.2.1 Y.2.2, ho_s, if_pos (cz.2.resolve_left q), if_neg (by decide)]
        rw [emr, bd2_s, if_pos rfl, if_pos t3, cs_nought h1 hry Y.1 Y.2.2, ho_s]
        by_cases q : ngt ky ny
        · rw [if_pos q, if_neg (by decide)]
          exact ⟨_, _, _, rfl, rfl, R0⟩
        · rw [if_neg q, if_pos rfl, cs_zero h1 hry Y.1 Y.2.2, ho_s, if_pos (cz.2.resolve_left q), if_neg (by decide)]
          exact ⟨_, _, _, rfl, rfl, R0⟩
      · obtain ⟨S1, S2, k, v, n, u, a, b, g1, g2, g3, g4, g5, g6, g7⟩ := cmb_both h1 h2 h3 hrx hry (rt := 126) (by decide) hi64 hj64 (ct := 60) (by omega) X Y ⟨xv1, xv2⟩ ⟨yv1, yv2⟩ (way := t) (by omega) (by omega) (fun q qq => cz ⟨q, qq⟩)
        have e60 : (if ji t = 3 then ((m_X2_isNought SC (6 + 2 * j)).bind (fun r_13 => if r_13 = 0 then ((m_X2_isZero SC (6 + 2 * j)).bind (fun r_15 => if r_15 = 0 then (m_X3_of_60 SC (ji t) (6 + 2 * i) (6 + 2 * j)) else (some ((-4 : Int32), SC)))) else (some ((-4 : Int32), SC)))) else (m_X3_of_60 SC (ji t) (6 + 2 * i) (6 + 2 * j))) = m_X3_of_60 SC (ji t) (6 + 2 * i) (6 + 2 * j) := by
          by_cases q : ji t = 3
          · have q3 : t = 3 := (ji_eql (c := 3) (b := 3) hw rfl (by decide)).mp q
            rw [if_pos q, cs_nought h1 hry Y.1 Y.2.2, ho_s, if_neg (fun qq => cz ⟨q3, Or.inl qq⟩), if_pos rfl, cs_zero h1 hry Y.1 Y.2.2, ho_s, if_neg (fun qq => cz ⟨q3, Or.inr qq⟩), if_pos rfl]
          · rw [if_neg q]
        rw [e60]
        unfold m_X3_of_60
        rw [g1, ho_s, show (60 : Int32) = ji (60 : Nat) from rfl, g2, bd2_s]
        have Rs := R.sc (g4.sc (by omega)) (g5.sc (by omega))
        have hne : ¬ (if v < -60 ∨ 60 < v then (-7 : Int32) else 0) = -4 := by split <;> decide
        rw [if_neg hne, Rs.2.2.2.2.2.1]
        by_cases c4 : m = 60
        · rw [if_pos (by rw [c4]), kp_full Rs c4 (by decide)]
          exact ⟨_, _, _, rfl, rfl, p, K, m, z, Rs⟩
        · rw [if_neg (fun q => c4 (by have := (ji_eq (a := m) (b := (60 : Nat)) ⟨by omega, by omega⟩ (by decide)).mp q; omega))]
          by_cases c5 : v < -60 ∨ 60 < v
          · simp only [if_pos c5]
            rw [if_neg (by decide), kp_beyond Rs (by omega) (by decide) g3.1.2.1 ⟨by omega, by omega⟩ c5]
            exact ⟨_, _, _, rfl, rfl, p, K, m, z, Rs⟩
          · simp only [if_neg c5]
            rw [if_pos (by decide)]
            exact kp_all R (g4.sc (by omega)) (g5.sc (by omega)) c4 g3 ⟨by omega, by omega⟩ (by omega)
theorem R_near (R : Rel SC SM) (x y w : Int32) : ∃ r SC1 SM1, m_X3_near SC x y w = some (r, SC1) ∧ m_X4_near SM x y w = some (r, SM1) ∧ Rel SC1 SM1 := by
  have R0 := R
  obtain ⟨p, K, m, z, R⟩ := R
  obtain ⟨h1, h2, h3, h4, h5, h6, -⟩ := id R
  have hw := ri_of w
  unfold m_X3_near m_X4_near
  rw [mf_in32 w (-60) 100 (-60) 100 rfl rfl (by decide) (by decide)]
  have ew : w = ji w.toInt := ji_of w
  generalize w.toInt = t at *
  subst ew
  rcases fnd R x with ⟨e1, e2⟩ | ⟨i, hi, rfl, e1, e2⟩
  · rw [e1, e2, ho_s, ho_s, if_pos rfl]
    dsimp only
    rcases fnd R y with ⟨f1, f2⟩ | ⟨j, hj, rfl, f1, f2⟩
    · rw [f1, ho_s]; exact ⟨_, _, _, rfl, rfl, R0⟩
    · rw [f1, ho_s]; dsimp only; rw [if_pos (kcV (by omega))]; exact ⟨_, _, _, rfl, rfl, R0⟩
  · have hi64 : i < 64 := by omega
    have hrx := kcV (show i < 63 by omega)
    rw [e1, e2, ho_s, ho_s, if_neg (show ¬ (1 : Int32) = 0 by decide)]
    dsimp only
    rw [if_pos hrx]
    rcases fnd R y with ⟨f1, f2⟩ | ⟨j, hj, rfl, f1, f2⟩
    · rw [f1, f2, ho_s, ho_s, if_pos rfl]; exact ⟨_, _, _, rfl, rfl, R0⟩
    · have hj64 : j < 64 := by omega
      have hry := kcV (show j < 63 by omega)
      rw [f1, f2, ho_s, ho_s, if_neg (show ¬ (1 : Int32) = 0 by decide)]
      dsimp only
      rw [if_pos hry, ho_s]
      by_cases c1 : t < -60
      · rw [if_pos ((ji_ltl (c := -60) (b := -60) hw rfl (by decide)).mpr c1), if_neg (show ¬ (-60 ≤ t ∧ t ≤ 100) by omega), if_pos rfl]
        exact ⟨_, _, _, rfl, rfl, R0⟩
      rw [if_neg (fun q => c1 ((ji_ltl (c := -60) (b := -60) hw rfl (by decide)).mp q))]
      by_cases c2 : t ≤ 100
      · rw [if_pos ((ji_lel (c := 100) (b := 100) hw rfl (by decide)).mpr c2), if_pos (show -60 ≤ t ∧ t ≤ 100 by omega), if_neg (show ¬ (1 : Int32) = 0 by decide)]
        obtain ⟨kx, vx, nx, ux, ax, bx, X, xv1, xv2, -⟩ := R.2.2.2.2.2.2.2.2.2.2.2 i hi
        obtain ⟨ky, vy, ny, uy, ay, by_, Y, yv1, yv2, -⟩ := R.2.2.2.2.2.2.2.2.2.2.2 j hj
        obtain ⟨S1, S2, k, v, n, u, a, b, g1, g2, g3, g4, g5, g6, g7⟩ := cmb_both h1 h2 h3 hrx hry (rt := 128) (by decide) hi64 hj64 (ct := 60) (by omega) X Y ⟨xv1, xv2⟩ ⟨yv1, yv2⟩ (way := 1) (by omega) (by omega) (fun q => by omega)
        have Rs : Rel S1 S2 := ⟨p, K, m, z, R.sc (g4.sc (by omega)) (g5.sc (by omega))⟩
        have k128 : kc 128 = 2 := by decide
        rw [show (1 : Int32) = ji 1 from rfl, g1, ho_s, show (60 : Int32) = ji (60 : Nat) from rfl, g2, bd2_s, cs_zero h1 k128 g3.1 g3.2.2, ms_zero h1 (by omega) g3.2.1 g3.2.2, ho_s, ho_s]
        by_cases q : zro k a
        · simp only [if_pos q, if_neg (show ¬ (1 : Int32) = 0 by decide)]
          exact ⟨_, _, _, rfl, rfl, Rs⟩
        simp only [if_neg q]
        rw [if_pos trivial, if_pos trivial, cs_nought h1 k128 g3.1 g3.2.2, ms_nought h1 (by omega) g3.2.1 g3.2.2, ho_s, ho_s]
        simp only [if_neg (oobc (show 60 < 64 by omega)), natc (show 60 < 64 by omega)]
        unfold m_X3_near_90
        rw [g3.1.2.1, g3.2.1.2.1]
        have rv : ri v := ⟨by omega, by omega⟩
        by_cases q2 : ngt k n
        · simp only [if_pos q2, if_neg (show ¬ (1 : Int32) = 0 by decide)]
          by_cases c3 : t ≤ v
          · rw [if_pos ((ji_le hw rv).mpr c3), if_neg (fun qq => by have := (ji_lt rv hw).mp qq; omega)]
            rw [if_neg (fun qq => by have := (ji_lt rv hw).mp qq; omega)]
            exact ⟨_, _, _, rfl, rfl, Rs⟩
          · rw [if_neg (fun qq => c3 ((ji_le hw rv).mp qq)), if_pos ((ji_lt rv hw).mpr (by omega))]
            exact ⟨_, _, _, rfl, rfl, Rs⟩
        · simp only [if_neg q2]
          rw [if_pos trivial, if_pos trivial]
          by_cases c3 : ji v < ji t
          · simp only [if_pos c3]; exact ⟨_, _, _, rfl, rfl, Rs⟩
          · simp only [if_neg c3]; exact ⟨_, _, _, rfl, rfl, Rs⟩
      · rw [if_neg (fun q => c2 ((ji_lel (c := 100) (b := 100) hw rfl (by decide)).mp q)), if_neg (show ¬ (-60 ≤ t ∧ t ≤ 100) by omega), if_pos rfl]
        exact ⟨_, _, _, rfl, rfl, R0⟩
end
