/-! figures of a RATIO, one behind the other -/
def dg (p w a : Int) : Int := a % p * w % p
def tl (p b w a : Int) : Int := (a - dg p w a * b) / p
def it (p b w : Int) : Nat → Int → Int
  | 0, a => a
  | n + 1, a => it p b w n (tl p b w a)
theorem it_s (p b w : Int) : ∀ (n : Nat) (a : Int), it p b w (n + 1) a = tl p b w (it p b w n a) := by
  intro n
  induction n with
  | zero => intro a; rfl
  | succ n ih => intro a; show it p b w (n + 1) (tl p b w a) = _; rw [ih]; rfl
/-- what makes a step of the figures: the prime, a low part, its inverse -/
def stp (p b w : Int) : Prop := 2 ≤ p ∧ p ≤ 31 ∧ 1 ≤ b ∧ b ≤ 1000000000 ∧ 0 ≤ w ∧ w < p ∧ b * w % p = 1
theorem dg_lt {p b w : Int} (h : stp p b w) (a : Int) : 0 ≤ dg p w a ∧ dg p w a < p := em_lt (by have := h.1; omega)
theorem alg8 {a b w p A d k1 k2 k3 : Int} (e1 : A - a = p * k1) (e2 : d - A * w = p * k2) (e3 : 1 - b * w = p * k3) : a - d * b = p * (-k1 * (b * w) - k2 * b + a * k3) := by grind
theorem dg_dv {p b w : Int} (h : stp p b w) (a : Int) : p ∣ a - dg p w a * b := by
  obtain ⟨h1, h2, h3, h4, h5, h6, h7⟩ := h
  obtain ⟨k1, e1⟩ := dv_mod (a := a) (m := p)
  obtain ⟨k2, e2⟩ := dv_mod (a := a % p * w) (m := p)
  obtain ⟨k3, e3⟩ := dv_mod (a := b * w) (m := p)
  rw [h7] at e3
  exact ⟨_, alg8 e1 e2 e3⟩
theorem tl_e {p b w : Int} (h : stp p b w) (a : Int) : p * tl p b w a = a - dg p w a * b := Int.mul_ediv_cancel' (dg_dv h a)
theorem dgb {p b w : Int} (h : stp p b w) (a : Int) : 0 ≤ dg p w a * b ∧ dg p w a * b ≤ (p - 1) * b := by
  have := dg_lt h a
  obtain ⟨h1, h2, h3, h4, -⟩ := h
  exact ⟨Int.mul_nonneg this.1 (by omega), Int.mul_le_mul_of_nonneg_right (by omega) (by omega)⟩
theorem tl_bd {p b w : Int} (h : stp p b w) {a M : Int} (hb : b ≤ M) (h1 : -M ≤ a) (h2 : a ≤ M) : -M ≤ tl p b w a ∧ tl p b w a ≤ M := by
  have e := tl_e h a
  have d := dgb h a
  obtain ⟨p1, p2, p3, p4, -⟩ := h
  generalize tl p b w a = t at *
  generalize dg p w a * b = s at *
  have m1 : (p - 1) * b ≤ (p - 1) * M := Int.mul_le_mul_of_nonneg_left hb (by omega)
  have m2 : (p - 1) * M = p * M - M := by rw [Int.sub_mul]; omega
  refine ⟨?_, ?_⟩
  · by_cases q : -M ≤ t
    · exact q
    · have : p * t ≤ p * (-M - 1) := Int.mul_le_mul_of_nonneg_left (by omega) (by omega)
      have e2 : p * (-M - 1) = -(p * M) - p := by rw [Int.mul_sub, Int.mul_neg]; omega
      omega
  · by_cases q : t ≤ M
    · exact q
    · have : p * (M + 1) ≤ p * t := Int.mul_le_mul_of_nonneg_left (by omega) (by omega)
      have e2 : p * (M + 1) = p * M + p := by rw [Int.mul_add]; omega
      have e3 : M ≤ p * M := by
        have : 1 * M ≤ p * M := Int.mul_le_mul_of_nonneg_right (by omega) (by omega)
        omega
      omega
section
variable {S : St} {p : Int} {K : Nat} {b w : Int}
theorem cf_dg (h : pk p K) (hS : fc S p K) (st : stp p b w) {a : Int} (h1 : -1000000000 ≤ a) (h2 : a ≤ 1000000000) : (m_X1_lowest S (jl a)).bind (fun r_1 => m_X1_lowest S (r_1.toInt64 * (ji w).toInt64)) = some (ji (dg p w a)) := by
  obtain ⟨p1, p2, p3, p4, p5, p6, -⟩ := st
  have r1 := em_lt (a := a) (show 0 < p by omega)
  have m1 := sq_bd r1.1 (show a % p < 32 by omega) p5 (show w < 32 by omega)
  rw [cf_lowest h hS ⟨by omega, by omega⟩ (by omega), ho_s, ji_l ⟨by omega, by omega⟩, ji_l ⟨by omega, by omega⟩, jl_mul, cf_lowest h hS ⟨by omega, by omega⟩ (by omega)]
  rfl
theorem cf_tail (h : pk p K) (hS : fc S p K) (st : stp p b w) {a : Int} (h1 : -1000000000 ≤ a) (h2 : a ≤ 1000000000) : m_X1_tail S (jl a) (jl b) (ji w) = some (jl (tl p b w a)) := by
  have e := cf_dg h hS st h1 h2
  have d := dgb st a
  have d1 := dg_lt st a
  have e2 := tl_e st a
  obtain ⟨p1, p2, p3, p4, p5, p6, -⟩ := st
  have r1 := em_lt (a := a) (show 0 < p by omega)
  have m1 := sq_bd r1.1 (show a % p < 32 by omega) p5 (show w < 32 by omega)
  rw [cf_lowest h hS ⟨by omega, by omega⟩ (by omega), ho_s] at e
  have m2 : (p - 1) * b ≤ 31 * 1000000000 := Int.mul_le_mul (by omega) p4 (by omega) (by omega)
  unfold m_X1_tail
  rw [cf_lowest h hS ⟨by omega, by omega⟩ (by omega), ho_s, e, ho_s, cf_p h hS, if_neg (jl_ne0 ⟨by omega, by omega⟩ (by omega)), ji_l ⟨by omega, by omega⟩, jl_mul, jl_sub, jl_tdiv ⟨by omega, by omega⟩ ⟨by omega, by omega⟩ (by omega), ← e2, Int.mul_tdiv_cancel_left _ (by omega)]
theorem cf_rf_loop (h : pk p K) (hS : fc S p K) (st : stp p b w) {N : Int} (hN2 : N ≤ 1200) : ∀ (q n : Nat) (a : Int), q < n → (q : Int) ≤ N → -1000000000 ≤ a → a ≤ 1000000000 → m_X3_ratioFigure_40 S n (ji N) (jl b) (jl a) (ji w) (ji (N - q)) = some (ji (dg p w (it p b w q a))) := by
  intro q
  induction q with
  | zero =>
    intro n a hn hq h1 h2
    obtain ⟨n, rfl⟩ : ∃ t, n = t + 1 := ⟨n - 1, by omega⟩
    unfold m_X3_ratioFigure_40 m_X3_ratioFigure_66
    have e := cf_dg h hS st h1 h2
    obtain ⟨p1, p2, p3, p4, p5, p6, -⟩ := st
    rw [cf_lowest h hS ⟨by omega, by omega⟩ (by omega), ho_s] at e
    rw [if_pos ((ji_le ⟨by omega, by omega⟩ ⟨by omega, by omega⟩).mpr (by omega)), cf_lowest h hS ⟨by omega, by omega⟩ (by omega), ho_s, e]
    rfl
  | succ q ih =>
    intro n a hn hq h1 h2
    obtain ⟨n, rfl⟩ : ∃ t, n = t + 1 := ⟨n - 1, by omega⟩
    have bd := tl_bd st (M := 1000000000) st.2.2.2.1 h1 h2
    unfold m_X3_ratioFigure_40
    rw [if_neg (fun z => by have := (ji_le (a := N) (b := N - (q + 1 : Nat)) ⟨by omega, by omega⟩ ⟨by omega, by omega⟩).mp z; omega), cf_tail h hS st h1 h2, ho_s, show (1 : Int32) = ji 1 from rfl, ji_add, show N - (q + 1 : Nat) + 1 = N - q by omega]
    exact ih n _ (by omega) (by omega) bd.1 bd.2
/-- the reference's step -/
theorem mf_dg (h : pk p K) (hS : fm S p K) (st : stp p b w) {a : Int} (h1 : -1000000000 ≤ a) (h2 : a ≤ 1000000000) : m_X4_into (jl a) (jl p) = some (jl (a % p)) ∧ rm64 (jl (a % p) * jl w) (jl p) = jl (dg p w a) ∧ (jl a - jl (dg p w a) * jl b) / jl p = jl (tl p b w a) := by
  have d := dgb st a
  have d1 := dg_lt st a
  have e2 := tl_e st a
  obtain ⟨p1, p2, p3, p4, p5, p6, -⟩ := st
  have r1 := em_lt (a := a) (show 0 < p by omega)
  have m1 := sq_bd r1.1 (show a % p < 32 by omega) p5 (show w < 32 by omega)
  have m2 : (p - 1) * b ≤ 31 * 1000000000 := Int.mul_le_mul (by omega) p4 (by omega) (by omega)
  refine ⟨mf_into ⟨by omega, by omega⟩ (by omega) ⟨by omega, by omega⟩ (by omega), ?_, ?_⟩
  · rw [jl_mul, jl_mod ⟨by omega, by omega⟩ m1.1 ⟨by omega, by omega⟩]; rfl
  · rw [jl_mul, jl_sub, jl_tdiv ⟨by omega, by omega⟩ ⟨by omega, by omega⟩ (by omega), ← e2, Int.mul_tdiv_cancel_left _ (by omega)]
theorem mf_rf_loop (h : pk p K) (hS : fm S p K) (st : stp p b w) {N : Int} (hN0 : 0 ≤ N) (hN2 : N ≤ 1200) : ∀ (q n : Nat) (a f : Int), q + 1 < n → (q : Int) ≤ N → -1000000000 ≤ a → a ≤ 1000000000 → m_X4_ratioFigure_46 S n (ji N) (jl a) (jl b) (jl w) (jl f) (ji (N - q)) = some (ji (dg p w (it p b w q a))) := by
  intro q
  induction q with
  | zero =>
    intro n a f hn hq h1 h2
    obtain ⟨n, rfl⟩ : ∃ t, n = t + 2 := ⟨n - 2, by omega⟩
    obtain ⟨e1, e2, e3⟩ := mf_dg h hS st h1 h2
    have hp := pk_p h
    unfold m_X4_ratioFigure_46
    rw [mf_p h hS, if_neg (fun z => by have := (ji_lt (a := N) (b := N - (0 : Nat)) ⟨by omega, by omega⟩ ⟨by omega, by omega⟩).mp z; omega), e1, ho_s, if_neg (jl_ne0 ⟨by omega, by omega⟩ (by omega)), if_neg (jl_ne0 ⟨by omega, by omega⟩ (by omega)), e2, e3, show (1 : Int32) = ji 1 from rfl, ji_add]
    unfold m_X4_ratioFigure_46
    rw [if_pos ((ji_lt ⟨by omega, by omega⟩ ⟨by omega, by omega⟩).mpr (by omega)), jl_i]
    rfl
  | succ q ih =>
    intro n a f hn hq h1 h2
    obtain ⟨n, rfl⟩ : ∃ t, n = t + 1 := ⟨n - 1, by omega⟩
    obtain ⟨e1, e2, e3⟩ := mf_dg h hS st h1 h2
    have bd := tl_bd st (M := 1000000000) st.2.2.2.1 h1 h2
    have hp := pk_p h
    unfold m_X4_ratioFigure_46
    rw [mf_p h hS, if_neg (fun z => by have := (ji_lt (a := N) (b := N - (q + 1 : Nat)) ⟨by omega, by omega⟩ ⟨by omega, by omega⟩).mp z; omega), e1, ho_s, if_neg (jl_ne0 ⟨by omega, by omega⟩ (by omega)), if_neg (jl_ne0 ⟨by omega, by omega⟩ (by omega)), e2, e3, show (1 : Int32) = ji 1 from rfl, ji_add, show N - (q + 1 : Nat) + 1 = N - q by omega]
    exact ih n _ _ (by omega) (by omega) bd.1 bd.2
end
/-- a RATIO that isn't 0: both find the same parts for its figures -/
theorem ratio_parts {SC SM : St} {p : Int} {K r c : Nat} {v u a b : Int} {n : Nat} (h : pk p K) (hc : fc SC p K) (hm : fm SM p K) (hc64 : c < 64) (B : bth p K SC SM r c 1 v n u a b) (ha : a ≠ 0) : ∃ x y w, stp p y w ∧ -1000000000 ≤ x ∧ x ≤ 1000000000 ∧ m_X1_strip SC ((SC.1 r 6).toInt64) = some (jl y) ∧ m_X1_strip SC ((SC.1 r 5).toInt64) = some (jl x) ∧ m_X1_firstInverse SC (jl y) = some (ji w) ∧ m_X4_without SM (SM.2 6 c) = some (jl x) ∧ m_X4_without SM (SM.2 7 c) = some (jl y) ∧ m_X4_into (jl y) (jl p) = some (jl (y % p)) ∧ m_X4_inverse SM (jl (y % p)) (ji 1) = some (jl w) := by
  have hp := pk_p h
  have hK := pk_K h
  obtain ⟨g1, g2, g3, g4, -⟩ := B.2.2.2.2.2.2.2.2.2.1 rfl
  obtain ⟨s, x, hx, hx1⟩ := pv_of hp.1 ha
  obtain ⟨t, y, hy, hy1⟩ := pv_of hp.1 (show b ≠ 0 by omega)
  have nx : x ≠ 0 := fun q => hx1 (by rw [q]; exact Int.dvd_zero _)
  have ny : y ≠ 0 := fun q => hy1 (by rw [q]; exact Int.dvd_zero _)
  have bx := (pv_bd hp.1 hx nx).2
  have by1 := (pv_bd hp.1 hy ny).2
  have yp : 0 < y := by
    have := pw_pos hp.1 t
    by_cases q : 0 < y
    · exact q
    · have : p ^ t * y ≤ p ^ t * 0 := Int.mul_le_mul_of_nonneg_left (by omega) (by omega)
      omega
  obtain ⟨w, f1, f2, f3, f4⟩ := cf_firstInverse h hc (a := y) ⟨by omega, by omega⟩ (by omega) hy1
  have ry := em_lt (a := y) (show 0 < p by omega)
  have hyp : ¬ p ∣ y % p := fun q => hy1 (Int.dvd_of_emod_eq_zero (by have := Int.emod_eq_zero_of_dvd q; rwa [Int.emod_emod_of_dvd _ (Int.dvd_refl p)] at this))
  obtain ⟨w2, j1, j2, j3, j4⟩ := mf_inverse h hm (N := 1) (by omega) (by omega) (a := y % p) ry.1 ⟨by omega, by omega⟩ hyp
  rw [pw1] at j3 j4
  have ew : w = w2 := by
    refine inv_uniq (a := y % p) (m := p) (by omega) f3 j2 j3 ?_ j4
    refine Int.dvd_of_emod_eq_zero ?_
    rw [Int.sub_emod, Int.mul_emod, Int.emod_emod_of_dvd _ (Int.dvd_refl p), ← Int.mul_emod, f4, Int.emod_eq_of_lt (by omega) (show (1 : Int) < p by omega)]
    rfl
  subst ew
  refine ⟨x, y, w, ⟨hp.1, hp.2, by omega, by omega, by omega, f3, f4⟩, by omega, by omega, ?_, ?_, f1, ?_, ?_, mf_into ⟨by omega, by omega⟩ (by omega) ⟨by omega, by omega⟩ (by omega), j1⟩
  · rw [(B.1.2.2.2.2 rfl).2, ji_l ⟨by omega, by omega⟩]; exact (cf_strip h hc ⟨by omega, by omega⟩ (by omega) hy hy1).1
  · rw [(B.1.2.2.2.2 rfl).1, ji_l ⟨by omega, by omega⟩]; exact (cf_strip h hc ⟨by omega, by omega⟩ (by omega) hx hx1).1
  · rw [(B.2.1.2.2.2.2 rfl).1]; exact (mf_strip h hm ⟨by omega, by omega⟩ (by omega) hx hx1).1
  · rw [(B.2.1.2.2.2.2 rfl).2]; exact (mf_strip h hm ⟨by omega, by omega⟩ (by omega) hy hy1).1
section
variable {SC SM : St}
theorem R_figure (R : Rel SC SM) (x y : Int32) : ∃ r, m_X3_figure SC x y = some r ∧ m_X4_figure SM x y = some r := by
  obtain ⟨p, K, m, z, R⟩ := R
  obtain ⟨h1, h2, h3, h4, h5, h6, -⟩ := id R
  have hp := pk_p h1
  have hK := pk_K h1
  unfold m_X3_figure m_X4_figure
  rcases fnd R x with ⟨e1, e2⟩ | ⟨i, hi, rfl, e1, e2⟩
  · rw [e1, e2]; exact ⟨_, rfl, rfl⟩
  · obtain ⟨k, v, n, u, a, b, B, bv1, bv2, -⟩ := R.2.2.2.2.2.2.2.2.2.2.2 i hi
    obtain ⟨r1, r2, r3, r4, r5, r6⟩ := vok_r h1 B.2.2
    have hi64 : i < 64 := by omega
    have hrx := kcV (show i < 63 by omega)
    have hy := ri_of y
    rw [e1, e2, ho_s, ho_s, if_neg (by decide), mf_in32 y (-100) 1000 (-100) 1000 rfl rfl (by decide) (by decide), ho_s]
    simp only [if_neg (oobc hi64), natc hi64]
    rw [if_pos hrx, B.1.1, B.2.1.1, B.1.2.1, B.1.2.2.1, B.1.2.2.2.1, B.2.1.2.1, B.2.1.2.2.1, B.2.1.2.2.2.1]
    have ey : y = ji y.toInt := ji_of y
    generalize y.toInt = t at *
    subst ey
    by_cases c1 : t < -100
    · rw [if_pos ((ji_ltl (c := -100) (b := -100) hy rfl (by decide)).mpr c1), if_neg (show ¬ (-100 ≤ t ∧ t ≤ 1000) by omega), if_pos rfl]
      exact ⟨_, rfl, rfl⟩
    rw [if_neg (fun q => c1 ((ji_ltl (c := -100) (b := -100) hy rfl (by decide)).mp q))]
    by_cases c2 : t ≤ 1000
    · rw [if_pos ((ji_lel (c := 1000) (b := 1000) hy rfl (by decide)).mpr c2), if_pos (show -100 ≤ t ∧ t ≤ 1000 by omega), if_neg (show ¬ (1 : Int32) = 0 by decide), cs_zero h1 hrx B.1 B.2.2, ms_zero h1 hi64 B.2.1 B.2.2, ho_s, ho_s]
      by_cases c3 : t < v
      · rw [if_pos ((ji_lt hy r2).mpr c3)]
        refine ⟨_, rfl, ?_⟩
        by_cases q : zro k a
        · rw [if_pos q, if_neg (by decide)]
        · rw [if_neg q, if_pos rfl, if_neg (fun z => by have := (ji_le r2 hy).mp z; omega)]
      · rw [if_neg (fun z => c3 ((ji_lt hy r2).mp z))]
        by_cases q : zro k a
        · simp only [if_pos q, if_neg (show ¬ (1 : Int32) = 0 by decide)]; exact ⟨_, rfl, rfl⟩
        simp only [if_neg q]
        rw [if_pos trivial, if_pos trivial, if_pos ((ji_le r2 hy).mpr (by omega))]
        by_cases q1 : k = 1
        · subst q1
          have ha : a ≠ 0 := fun z => q ⟨rfl, z⟩
          obtain ⟨X, Y, w, st, bx1, bx2, f1, f2, f3, f4, f5, f6, f7⟩ := ratio_parts h1 h2 h3 hi64 B ha
          have k1 : ji 1 = 1 := rfl
          simp only [if_pos k1]
          unfold m_X3_ratioFigure m_X4_ratioFigure
          simp only [if_neg (oobc hi64), natc hi64]
          have g1 := cf_rf_loop h1 h2 st (N := t - v) (by omega) (t - v).toNat fu X (by rw [fu_v]; omega) (by omega) bx1 bx2
          have g2 := mf_rf_loop h1 h3 st (N := t - v) (by omega) (by omega) (t - v).toNat fu X 0 (by rw [fu_v]; omega) (by omega) bx1 bx2
          rw [show t - v - ((t - v).toNat : Int) = 0 by omega] at g1 g2
          rw [if_pos hrx, f1, ho_s, f2, ho_s, f3, ho_s, ji_sub, f4, ho_s, f5, ho_s, mf_p h1 h3, f6, ho_s, show (1 : Int32) = ji 1 from rfl, f7, ho_s, show (0 : Int32) = ji 0 from rfl, g1, show (0 : Int64) = jl 0 from rfl, g2]
          exact ⟨_, rfl, rfl⟩
        · have k1 : ¬ ji k = 1 := fun z => q1 ((ji_eql (c := 1) (b := 1) r1 rfl (by decide)).mp z)
          simp only [if_neg k1]
          rw [ji_add]
          by_cases c4 : v + n ≤ t
          · rw [if_pos ((ji_le ⟨by omega, by omega⟩ hy).mpr c4), if_neg (fun z => by have := (ji_lt hy (show ri (v + n) from ⟨by omega, by omega⟩)).mp z; omega)]
            exact ⟨_, rfl, rfl⟩
          · obtain ⟨s, hs⟩ : ∃ s : Nat, t - v = s := ⟨(t - v).toNat, by omega⟩
            have hnK := B.2.2.2.2.2.2.1
            have hsK : s ≤ K := by omega
            have b1 := pw_K h1 hsK
            have u0 := B.2.2.2.2.2.2.2.1
            have d1 : 0 ≤ u / p ^ s := Int.ediv_nonneg u0 (by omega)
            have d2 : u / p ^ s ≤ u := Int.ediv_le_self _ u0
            rw [if_neg (fun z => c4 ((ji_le ⟨by omega, by omega⟩ hy).mp z)), if_pos ((ji_lt hy ⟨by omega, by omega⟩).mpr (by omega)), ji_sub, hs, cf_pw h1 h2 hsK, ho_s, if_neg (jl_ne0 ⟨by omega, by omega⟩ (by omega)), if_neg (mf_oob h1 hsK), mf_pw h1 h3 hsK, if_neg (jl_ne0 ⟨by omega, by omega⟩ (by omega)), mf_p h1 h3, if_neg (jl_ne0 ⟨by omega, by omega⟩ (by omega)), jl_div r4 u0 ⟨by omega, by omega⟩, cf_lowest h1 h2 ⟨by omega, by omega⟩ (by omega), ho_s, jl_mod ⟨by omega, by omega⟩ d1 ⟨by omega, by omega⟩, jl_i]
            exact ⟨_, rfl, rfl⟩
    · rw [if_neg (fun q => c2 ((ji_lel (c := 1000) (b := 1000) hy rfl (by decide)).mp q)), if_neg (show ¬ (-100 ≤ t ∧ t ≤ 1000) by omega), if_pos rfl]
      exact ⟨_, rfl, rfl⟩
end
