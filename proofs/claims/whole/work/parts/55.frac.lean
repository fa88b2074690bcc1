/-! numbers as both hold them; fractions laid -/
/-- the class's number at r: kind k, lift v, sure n, figures u, parts a / b -/
def vc (S : St) (r : Nat) (k v : Int) (n : Nat) (u a b : Int) : Prop := S.1 r 1 = ji k ∧ S.1 r 2 = ji v ∧ S.1 r 3 = ji n ∧ S.2 r 4 = jl u ∧ (k = 1 → S.1 r 5 = ji a ∧ S.1 r 6 = ji b)
/-- the reference's number at c -/
def vm (S : St) (c : Nat) (k v : Int) (n : Nat) (u a b : Int) : Prop := S.1 2 c = ji k ∧ S.1 3 c = ji v ∧ S.1 4 c = ji n ∧ S.2 5 c = jl u ∧ (k = 1 → S.2 6 c = jl a ∧ S.2 7 c = jl b)
def frc (S S1 : St) (r : Nat) : Prop := (∀ q, q ≠ r → S1.1 q = S.1 q ∧ S1.2 q = S.2 q) ∧ S1.1 r 7 = S.1 r 7
def frm (S S1 : St) (c : Nat) : Prop := ∀ q j, ¬ (2 ≤ q ∧ q ≤ 7 ∧ j = c) → S1.1 q j = S.1 q j ∧ S1.2 q j = S.2 q j
theorem frc.tr {S S1 S2 : St} {r : Nat} (h1 : frc S S1 r) (h2 : frc S1 S2 r) : frc S S2 r := ⟨fun q hq => ⟨((h2.1 q hq).1).trans (h1.1 q hq).1, ((h2.1 q hq).2).trans (h1.1 q hq).2⟩, h2.2.trans h1.2⟩
theorem frm.tr {S S1 S2 : St} {c : Nat} (h1 : frm S S1 c) (h2 : frm S1 S2 c) : frm S S2 c := fun q j hq => ⟨((h2 q j hq).1).trans (h1 q j hq).1, ((h2 q j hq).2).trans (h1 q j hq).2⟩
theorem frc.fc {S S1 : St} {r : Nat} {p : Int} {K : Nat} (h : frc S S1 r) (hr : 6 ≤ r) (hS : fc S p K) : fc S1 p K := by
  obtain ⟨a1, a2⟩ := h.1 1 (by omega)
  obtain ⟨b1, b2⟩ := h.1 2 (by omega)
  exact ⟨by rw [a1]; exact hS.1, by rw [a1]; exact hS.2.1, fun j hj => by rw [b2]; exact hS.2.2 j hj⟩
theorem frm.fm {S S1 : St} {c : Nat} {p : Int} {K : Nat} (h : frm S S1 c) (hS : fm S p K) : fm S1 p K :=
  ⟨by rw [(h 0 0 (by omega)).1]; exact hS.1, by rw [(h 0 1 (by omega)).1]; exact hS.2.1, fun j hj => by rw [(h 1 j (by omega)).2]; exact hS.2.2 j hj⟩
/-- what a number keeps to -/
def vok (p : Int) (K : Nat) (k v : Int) (n : Nat) (u a b : Int) : Prop :=
  0 ≤ k ∧ k ≤ 3 ∧ -300 ≤ v ∧ v ≤ 300 ∧ n ≤ K ∧ 0 ≤ u ∧ u < p ^ n ∧ (k = 1 → n = K ∧ 1 ≤ b ∧ b ≤ 1000000000 ∧ a.natAbs ≤ 1000000000 ∧ Int.gcd a b = 1 ∧ -60 ≤ v ∧ v ≤ 60 ∧ (a = 0 → v = 60 ∧ u = 0) ∧ (a ≠ 0 → ¬ p ∣ u)) ∧ (k ≠ 1 → n ≠ 0 → ¬ p ∣ u)
theorem kc6 {r : Nat} (h : kc r = 2) : 6 ≤ r := by
  rcases Nat.lt_or_ge r 6 with q | q
  · have : r = 0 ∨ r = 1 ∨ r = 2 ∨ r = 3 ∨ r = 4 ∨ r = 5 := by omega
    rcases this with rfl | rfl | rfl | rfl | rfl | rfl <;> simp [kc] at h
  · exact q
theorem cs_set {S : St} {r : Nat} (hr : kc r = 2) (k v n : Int32) (u : Int64) : ∃ S1, m_X2_set S r k v n u = some S1 ∧ S1.1 r 1 = k ∧ S1.1 r 2 = v ∧ S1.1 r 3 = n ∧ S1.2 r 4 = u ∧ S1.1 r 5 = S.1 r 5 ∧ S1.1 r 6 = S.1 r 6 ∧ frc S S1 r := by
  unfold m_X2_set
  rw [if_pos hr]
  refine ⟨_, rfl, ?_, ?_, ?_, ?_, ?_, ?_, ?_, ?_⟩
  · simp [st_I, st_L]
  · simp [st_I, st_L]
  · simp [st_I, st_L]
  · simp [st_I, st_L]
  · simp [st_I, st_L]
  · simp [st_I, st_L]
  · intro q hq
    constructor <;> (funext j; simp [st_I, st_L, hq])
  · simp [st_I, st_L]
abbrev fits9 (x y : Int) : Prop := x.natAbs ≤ 1000000000 ∧ y ≤ 1000000000
theorem ifb {b : Bool} : ((if b then (1 : Int32) else 0) = 0) ↔ b = false := by cases b <;> decide
section
variable {S : St} {p : Int} {K : Nat}
theorem cs_202 {r : Nat} {x y : Int} (b : Bool) : ∃ S1, m_X0_setFraction_202 S r (jl x) (jl y) (if b then 1 else 0) = some S1 ∧ (b = true → S1.1 r 5 = ji x ∧ S1.1 r 6 = ji y) ∧ S1.1 r 1 = S.1 r 1 ∧ S1.1 r 2 = S.1 r 2 ∧ S1.1 r 3 = S.1 r 3 ∧ S1.2 r 4 = S.2 r 4 ∧ frc S S1 r := by
  unfold m_X0_setFraction_202 m_X0_setFraction_216 m_X0_setFraction_233
  cases b with
  | true =>
    refine ⟨_, rfl, fun _ => ⟨?_, ?_⟩, ?_, ?_, ?_, ?_, ?_, ?_⟩
    · simp [st_I, jl_i]
    · simp [st_I, jl_i]
    · simp [st_I]
    · simp [st_I]
    · simp [st_I]
    · simp [st_I]
    · intro q hq
      constructor <;> (funext j; simp [st_I, hq])
    · simp [st_I]
  | false =>
    refine ⟨_, rfl, (fun h => by cases h), ?_, ?_, ?_, ?_, ?_, ?_⟩
    · simp [st_I]
    · simp [st_I]
    · simp [st_I]
    · simp [st_I]
    · intro q hq
      constructor <;> (funext j; simp [st_I, hq])
    · simp [st_I]
theorem frv_of (h : pk p K) {s t : Nat} {x y x1 y1 u w : Int} (hx : x = p ^ s * x1) (hy : y = p ^ t * y1) (h1 : ¬ p ∣ x1) (h2 : ¬ p ∣ y1) (hw : p ^ K ∣ (y1 % p ^ K) * w - 1) (hu : u = (x1 % p ^ K) * w % p ^ K) : frv p K x y ((s : Int) - t) u := by
  have hp := pk_p h
  have q5 := pw_K h (Nat.le_refl K)
  have r1 := em_lt (a := (x1 % p ^ K) * w) q5.1
  have hx0 : x1 ≠ 0 := fun q => h1 (by rw [q]; exact Int.dvd_zero _)
  have hs := pw_pos hp.1 s
  refine Or.inr ⟨fun q => ?_, s, t, x1, y1, hx, hy, h1, h2, rfl, by rw [hu]; exact r1.1, by rw [hu]; exact r1.2, ?_⟩
  · rw [q] at hx
    rcases Int.mul_eq_zero.mp hx.symm with c | c
    · omega
    · exact hx0 c
  · obtain ⟨k1, e1⟩ := hw
    obtain ⟨k2, e2⟩ := dv_mod (a := y1) (m := p ^ K)
    obtain ⟨k3, e3⟩ := dv_mod (a := x1) (m := p ^ K)
    obtain ⟨k4, e4⟩ := dv_mod (a := (x1 % p ^ K) * w) (m := p ^ K)
    rw [← hu] at e4
    generalize x1 % p ^ K = X at *
    generalize y1 % p ^ K = Y at *
    generalize p ^ K = m at *
    refine ⟨k4 * y1 + X * k1 - X * w * k2 + k3, ?_⟩
    have f1 : u = X * w + m * k4 := by omega
    have f2 : Y * w = 1 + m * k1 := by omega
    have f3 : X = x1 + m * k3 := by omega
    have f4 : Y = y1 + m * k2 := by omega
    rw [f1]
    have : X * w * y1 = X * (Y * w) - X * w * (m * k2) := by rw [f4]; grind
    grind
theorem cs_68 (h : pk p K) (hS : fc S p K) {r : Nat} (hr : kc r = 2) {x y : Int} (b : Bool) (hb : x = 0 → b = true) (bx : x.natAbs ≤ 2000000000000000000) (by1 : 1 ≤ y) (by2 : y ≤ 2000000000000000000) : ∃ S1 v u, m_X0_setFraction_68 S r (jl x) (jl y) (if b then 1 else 0) = some S1 ∧ vc S1 r (if b then 1 else 0) v K u x y ∧ frv p K x y v u ∧ frc S S1 r ∧ -63 ≤ v ∧ v ≤ 63 := by
  have hp := pk_p h
  have hK := pk_K h
  have h6 := kc6 hr
  unfold m_X0_setFraction_68
  by_cases c0 : x = 0
  · rw [if_pos (by rw [c0]; rfl)]
    obtain ⟨S1, e1, a1, a2, a3, a4, a5, a6, a7⟩ := cs_set (S := S) hr 1 60 (S.1 1 2) 0
    obtain ⟨S2, e2, b0, b1, b2, b3, b4, b5⟩ := cs_202 (S := S1) (r := r) (x := x) (y := y) b
    rw [e1, ho_s, e2]
    have hbt := hb c0
    subst hbt
    refine ⟨S2, 60, 0, rfl, ⟨by rw [b1, a1]; rfl, by rw [b2, a2]; rfl, by rw [b3, a3, hS.2.1], by rw [b4, a4]; rfl, fun _ => b0 rfl⟩, Or.inl ⟨c0, rfl, rfl⟩, a7.tr b5, by omega, by omega⟩
  · rw [if_neg (jl_ne0 ⟨by omega, by omega⟩ c0)]
    obtain ⟨s, x1, hx, hx1⟩ := pv_of hp.1 c0
    obtain ⟨t, y1, hy, hy1⟩ := pv_of hp.1 (show y ≠ 0 by omega)
    have nx : x1 ≠ 0 := fun q => hx1 (by rw [q]; exact Int.dvd_zero _)
    have ny : y1 ≠ 0 := fun q => hy1 (by rw [q]; exact Int.dvd_zero _)
    obtain ⟨s1, s2⟩ := cf_strip h hS (a := x) ⟨by omega, by omega⟩ (by omega) hx hx1
    obtain ⟨t1, t2⟩ := cf_strip h hS (a := y) ⟨by omega, by omega⟩ (by omega) hy hy1
    have bx1 := (pv_bd hp.1 hx nx)
    have by3 := (pv_bd hp.1 hy ny)
    have vs := pv_63 hp.1 (a := x) ⟨by omega, by omega⟩ bx1.1
    have vt := pv_63 hp.1 (a := y) ⟨by omega, by omega⟩ by3.1
    have q5 := pw_K h (Nat.le_refl K)
    have rx := em_lt (a := x1) q5.1
    have ry := em_lt (a := y1) q5.1
    have hyK : ¬ p ∣ y1 % p ^ K := fun q => hy1 (by
      have := Int.dvd_trans (dv_p hp.1 (show 1 ≤ K by omega)) (dv_mod (a := y1) (m := p ^ K))
      have h3 := Int.dvd_sub q this
      rwa [show y1 % p ^ K - (y1 % p ^ K - y1) = y1 by omega] at h3)
    obtain ⟨w, i1, i2, i3, i4⟩ := cf_inverse h hS (Nat.le_refl K) (by omega) ry.1 ry.2 hyK
    rw [s1, ho_s, hS.2.1, cf_reduce h hS ⟨by omega, by omega⟩ (by omega) (Nat.le_refl K), ho_s, t1, ho_s, cf_reduce h hS ⟨by omega, by omega⟩ (by omega) (Nat.le_refl K), ho_s, i1, ho_s, s2, ho_s, t2, ho_s, ji_sub]
    obtain ⟨u, hu⟩ : ∃ u, u = x1 % p ^ K * w % p ^ K := ⟨_, rfl⟩
    have fin : ∀ kk : Int32, ∃ S1, m_X0_setFraction_182 S r (jl x) (jl y) (if b then 1 else 0) (ji K) (jl (x1 % p ^ K)) (jl w) (ji ((s : Int) - t)) kk r = some S1 ∧ S1.1 r 1 = kk ∧ S1.1 r 2 = ji ((s : Int) - t) ∧ S1.1 r 3 = ji K ∧ S1.2 r 4 = jl u ∧ (b = true → S1.1 r 5 = ji x ∧ S1.1 r 6 = ji y) ∧ frc S S1 r := by
      intro kk
      unfold m_X0_setFraction_182
      rw [cf_product h hS (Nat.le_refl K) rx.1 rx.2 i2 i3, ho_s, ← hu]
      obtain ⟨S1, e1, a1, a2, a3, a4, a5, a6, a7⟩ := cs_set (S := S) hr kk (ji ((s : Int) - t)) (ji K) (jl u)
      obtain ⟨S2, e2, b0, b1, b2, b3, b4, b5⟩ := cs_202 (S := S1) (r := r) (x := x) (y := y) b
      rw [e1, ho_s, e2]
      exact ⟨S2, rfl, by rw [b1, a1], by rw [b2, a2], by rw [b3, a3], by rw [b4, a4], b0, a7.tr b5⟩
    have hfv := frv_of h hx hy hx1 hy1 i4 hu
    cases b with
    | true =>
      obtain ⟨S1, e1, a1, a2, a3, a4, a5, a6⟩ := fin 1
      refine ⟨S1, _, u, ?_, ⟨by rw [a1]; rfl, a2, a3, a4, fun _ => a5 rfl⟩, hfv, a6, by omega, by omega⟩
      rw [if_neg (by decide)]
      exact e1
    | false =>
      obtain ⟨S1, e1, a1, a2, a3, a4, a5, a6⟩ := fin 0
      refine ⟨S1, _, u, ?_, ⟨by rw [a1]; rfl, a2, a3, a4, fun q => by simp at q⟩, hfv, a6, by omega, by omega⟩
      rw [if_pos (by decide)]
      exact e1
theorem cs_frac (h : pk p K) (hS : fc S p K) {r : Nat} (hr : kc r = 2) {up low x y : Int} (h0 : low ≠ 0) (bu : up.natAbs ≤ 2000000000000000000) (bl : low.natAbs ≤ 2000000000000000000) (hred : red up low x y) : ∃ S1 v u, m_X0_setFraction S (jl up) (jl low) r = some S1 ∧ vc S1 r (if fits9 x y then 1 else 0) v K u x y ∧ frv p K x y v u ∧ frc S S1 r ∧ -63 ≤ v ∧ v ≤ 63 := by
  obtain ⟨d, x2, y2, d1, d2, d3, d4, d5, d6⟩ := red_ex (up := up) h0
  obtain ⟨e1, e2⟩ := red_uniq h0 hred d6
  subst e1 e2
  have ax : x.natAbs ≤ up.natAbs := by
    rw [d4, Int.natAbs_mul]
    have := Nat.mul_le_mul_right x.natAbs (show 1 ≤ d.natAbs by omega)
    omega
  have ay : y.natAbs ≤ low.natAbs := by
    rw [d5, Int.natAbs_mul]
    have := Nat.mul_le_mul_right y.natAbs (show 1 ≤ d.natAbs by omega)
    omega
  have ad : d.natAbs ≤ low.natAbs := by
    rw [d5, Int.natAbs_mul]
    have := Nat.mul_le_mul_left d.natAbs (show 1 ≤ y.natAbs by have := hred.1; omega)
    omega
  have y1 := hred.1
  have E : m_X0_setFraction S (jl up) (jl low) r = m_X0_setFraction_20 S (jl up) (jl low) r (jl d) := by
    unfold m_X0_setFraction
    rw [if_pos hr, cf_gcd bu bl, ho_s, ho_s]
    by_cases c : 0 ≤ low
    · rw [if_pos ((jl_ler (c := 0) (b := 0) ⟨by omega, by omega⟩ rfl (by decide)).mpr c), show ((Int.gcd up low : Nat) : Int) = d by omega]
    · rw [if_neg (fun q => c ((jl_ler (c := 0) (b := 0) ⟨by omega, by omega⟩ rfl (by decide)).mp q)), jl_neg, show -((Int.gcd up low : Nat) : Int) = d by omega]
  rw [E]
  unfold m_X0_setFraction_20
  have q1 : up.tdiv d = x := by rw [d4]; exact Int.mul_tdiv_cancel_left _ d3
  have q2 : low.tdiv d = y := by rw [d5]; exact Int.mul_tdiv_cancel_left _ d3
  rw [if_neg (jl_ne0 ⟨by omega, by omega⟩ d3), if_neg (jl_ne0 ⟨by omega, by omega⟩ d3), if_neg (jl_ne0 ⟨by omega, by omega⟩ d3), jl_tdiv ⟨by omega, by omega⟩ ⟨by omega, by omega⟩ (by omega), jl_tdiv ⟨by omega, by omega⟩ ⟨by omega, by omega⟩ (by omega), q1, q2, jl_abs ⟨by omega, by omega⟩]
  have hx0 : x = 0 → fits9 x y := by
    intro q
    have := hred.2.1
    rw [q] at this
    simp at this
    exact ⟨by omega, by omega⟩
  unfold m_X0_setFraction_67
  by_cases c1 : (1000000000 : Int) < x.natAbs
  · rw [if_pos ((jl_ltr (c := 1000000000) (b := 1000000000) ⟨by omega, by omega⟩ rfl (by decide)).mpr c1)]
    have nf : ¬ fits9 x y := fun q => by have := q.1; omega
    obtain ⟨S1, v, u, g1, g2, g3, g4, g5⟩ := cs_68 h hS hr (x := x) (y := y) false (fun q => absurd (hx0 q) nf) (by omega) y1 (by omega)
    exact ⟨S1, v, u, g1, by rw [if_neg nf]; exact g2, g3, g4, g5⟩
  · rw [if_neg (fun q => c1 ((jl_ltr (c := 1000000000) (b := 1000000000) ⟨by omega, by omega⟩ rfl (by decide)).mp q))]
    by_cases c2 : 1000000000 < y
    · rw [if_pos ((jl_ltr (c := 1000000000) (b := 1000000000) ⟨by omega, by omega⟩ rfl (by decide)).mpr c2)]
      have nf : ¬ fits9 x y := fun q => by have := q.2; omega
      obtain ⟨S1, v, u, g1, g2, g3, g4, g5⟩ := cs_68 h hS hr (x := x) (y := y) false (fun q => absurd (hx0 q) nf) (by omega) y1 (by omega)
      exact ⟨S1, v, u, g1, by rw [if_neg nf]; exact g2, g3, g4, g5⟩
    · rw [if_neg (fun q => c2 ((jl_ltr (c := 1000000000) (b := 1000000000) ⟨by omega, by omega⟩ rfl (by decide)).mp q))]
      have nf : fits9 x y := ⟨by omega, by omega⟩
      obtain ⟨S1, v, u, g1, g2, g3, g4, g5⟩ := cs_68 h hS hr (x := x) (y := y) true (fun _ => rfl) (by omega) y1 (by omega)
      exact ⟨S1, v, u, g1, by rw [if_pos nf]; exact g2, g3, g4, g5⟩
end
/-! the reference's -/
theorem oobc {c : Nat} (hc : c < 64) : ¬ oob (ji c) 64 := by rw [ji_oob ⟨by omega, by omega⟩]; omega
theorem natc {c : Nat} (hc : c < 64) : (ji c).toNatClampNeg = c := by rw [ji_nat ⟨by omega, by omega⟩]; omega
theorem ms_lay {S : St} {c : Nat} (hc : c < 64) (k v n : Int32) (u : Int64) : ∃ S1, m_X4_lay S (ji c) k v n u = some S1 ∧ S1.1 2 c = k ∧ S1.1 3 c = v ∧ S1.1 4 c = n ∧ S1.2 5 c = u ∧ S1.2 6 c = S.2 6 c ∧ S1.2 7 c = S.2 7 c ∧ frm S S1 c := by
  unfold m_X4_lay
  rw [if_neg (oobc hc), if_neg (oobc hc), if_neg (oobc hc), if_neg (oobc hc), natc hc]
  refine ⟨_, rfl, ?_, ?_, ?_, ?_, ?_, ?_, ?_⟩
  · simp [st_I, st_L]
  · simp [st_I, st_L]
  · simp [st_I, st_L]
  · simp [st_I, st_L]
  · simp [st_I, st_L]
  · simp [st_I, st_L]
  · intro q j hq
    constructor
    · simp only [st_L, st_I]
      rw [if_neg (by omega), if_neg (by omega), if_neg (by omega)]
    · simp only [st_L, st_I]
      rw [if_neg (by omega)]
theorem ms_parts {S : St} {c : Nat} (a b : Int64) : (st_L (st_L S 6 c a) 7 c b).2 6 c = a ∧ (st_L (st_L S 6 c a) 7 c b).2 7 c = b ∧ (st_L (st_L S 6 c a) 7 c b).1 = S.1 ∧ (st_L (st_L S 6 c a) 7 c b).2 5 c = S.2 5 c ∧ frm S (st_L (st_L S 6 c a) 7 c b) c := by
  refine ⟨by simp [st_L], by simp [st_L], rfl, by simp [st_L], fun q j hq => ⟨rfl, ?_⟩⟩
  simp only [st_L]
  rw [if_neg (by omega), if_neg (by omega)]
section
variable {S : St} {p : Int} {K : Nat}
theorem ms_figuresOf (h : pk p K) (hS : fm S p K) {x y x1 y1 : Int} {s t : Nat} (bx : x.natAbs ≤ 2000000000000000000) (by1 : 1 ≤ y) (by2 : y ≤ 2000000000000000000) (hx : x = p ^ s * x1) (hy : y = p ^ t * y1) (hx1 : ¬ p ∣ x1) (hy1 : ¬ p ∣ y1) : ∃ u, m_X4_figuresOf S (jl x) (jl y) = some (jl u) ∧ frv p K x y ((s : Int) - t) u := by
  have hp := pk_p h
  have hK := pk_K h
  have nx : x1 ≠ 0 := fun q => hx1 (by rw [q]; exact Int.dvd_zero _)
  have ny : y1 ≠ 0 := fun q => hy1 (by rw [q]; exact Int.dvd_zero _)
  obtain ⟨s1, s2⟩ := mf_strip h hS (a := x) ⟨by omega, by omega⟩ (by omega) hx hx1
  obtain ⟨t1, t2⟩ := mf_strip h hS (a := y) ⟨by omega, by omega⟩ (by omega) hy hy1
  have bx1 := (pv_bd hp.1 hx nx)
  have by3 := (pv_bd hp.1 hy ny)
  have q5 := pw_K h (Nat.le_refl K)
  have rx := em_lt (a := x1) q5.1
  have hy1p : 0 < y1 := by
    have := pw_pos hp.1 t
    by_cases c : 0 < y1
    · exact c
    · have : p ^ t * y1 ≤ p ^ t * 0 := Int.mul_le_mul_of_nonneg_left (by omega) (by omega)
      omega
  obtain ⟨w, i1, i2, i3, i4⟩ := mf_inverse h hS (Nat.le_refl K) (by omega) (a := y1) (by omega) ⟨by omega, by omega⟩ hy1
  unfold m_X4_figuresOf
  rw [s1, ho_s, hS.2.1, if_neg (mf_oob h (Nat.le_refl K)), mf_pw h hS (Nat.le_refl K), mf_into ⟨by omega, by omega⟩ (by omega) ⟨by omega, by omega⟩ q5.1, ho_s, t1, ho_s, i1, ho_s, if_neg (mf_oob h (Nat.le_refl K)), mf_times q5.1 q5.2 rx.1 rx.2 i2 ⟨by omega, by omega⟩]
  refine ⟨_, rfl, frv_of h hx hy hx1 hy1 ?_ rfl⟩
  obtain ⟨k1, e1⟩ := i4
  obtain ⟨k2, e2⟩ := dv_mod (a := y1) (m := p ^ K)
  refine ⟨k1 + k2 * w, ?_⟩
  rw [Int.mul_add, ← e1, ← Int.mul_assoc, ← e2, Int.sub_mul]; omega
theorem ms_127 (h : pk p K) (hS : fm S p K) {c : Nat} (hc : c < 64) {x y : Int} (b : Bool) (hx0 : x ≠ 0) (bx : x.natAbs ≤ 2000000000000000000) (by1 : 1 ≤ y) (by2 : y ≤ 2000000000000000000) : ∃ S1 v u, m_X4_layFraction_127 S (ji c) (jl x) (jl y) (if b then 1 else 0) = some S1 ∧ vm S1 c (if b then 1 else 0) v K u x y ∧ frv p K x y v u ∧ frm S S1 c := by
  have hp := pk_p h
  obtain ⟨s, x1, hx, hx1⟩ := pv_of hp.1 hx0
  obtain ⟨t, y1, hy, hy1⟩ := pv_of hp.1 (show y ≠ 0 by omega)
  obtain ⟨s1, s2⟩ := mf_strip h hS (a := x) ⟨by omega, by omega⟩ (by omega) hx hx1
  obtain ⟨t1, t2⟩ := mf_strip h hS (a := y) ⟨by omega, by omega⟩ (by omega) hy hy1
  obtain ⟨u, f1, f2⟩ := ms_figuresOf h hS bx by1 by2 hx hy hx1 hy1
  have fin : ∀ kk : Int32, ∃ S1, m_X4_layFraction_141 S (ji c) (jl x) (jl y) kk (ji c) = some S1 ∧ S1.1 2 c = kk ∧ S1.1 3 c = ji ((s : Int) - t) ∧ S1.1 4 c = ji K ∧ S1.2 5 c = jl u ∧ S1.2 6 c = jl x ∧ S1.2 7 c = jl y ∧ frm S S1 c := by
    intro kk
    unfold m_X4_layFraction_141
    rw [s2, ho_s, t2, ho_s, f1, ho_s, ji_sub, hS.2.1]
    obtain ⟨S1, e1, a1, a2, a3, a4, a5, a6, a7⟩ := ms_lay (S := S) hc kk (ji ((s : Int) - t)) (ji K) (jl u)
    rw [e1, ho_s, if_neg (oobc hc), if_neg (oobc hc), natc hc]
    obtain ⟨p1, p2, p3, p4, p5⟩ := ms_parts (S := S1) (c := c) (jl x) (jl y)
    exact ⟨_, rfl, by rw [p3]; exact a1, by rw [p3]; exact a2, by rw [p3]; exact a3, by rw [p4]; exact a4, p1, p2, a7.tr p5⟩
  unfold m_X4_layFraction_127
  cases b with
  | true =>
    obtain ⟨S1, e1, a1, a2, a3, a4, a5, a6, a7⟩ := fin 1
    refine ⟨S1, _, u, ?_, ⟨by rw [a1]; rfl, a2, a3, a4, fun _ => ⟨a5, a6⟩⟩, f2, a7⟩
    rw [if_neg (by decide)]
    exact e1
  | false =>
    obtain ⟨S1, e1, a1, a2, a3, a4, a5, a6, a7⟩ := fin 0
    refine ⟨S1, _, u, ?_, ⟨by rw [a1]; rfl, a2, a3, a4, fun _ => ⟨a5, a6⟩⟩, f2, a7⟩
    rw [if_pos (by decide)]
    exact e1
theorem ms_97 (h : pk p K) (hS : fm S p K) {c : Nat} (hc : c < 64) {x y : Int} (hx0 : x ≠ 0) (bx : x.natAbs ≤ 2000000000000000000) (by1 : 1 ≤ y) (by2 : y ≤ 2000000000000000000) : ∃ S1 v u, m_X4_layFraction_97 S (ji c) (jl x) (jl y) = some S1 ∧ vm S1 c (if fits9 x y then 1 else 0) v K u x y ∧ frv p K x y v u ∧ frm S S1 c := by
  unfold m_X4_layFraction_97 m_X4_layFraction_126
  rw [show (-1000000000 : Int64) = jl (-1000000000) from rfl, show (1000000000 : Int64) = jl 1000000000 from rfl, mf_in ⟨by omega, by omega⟩ (by decide) (by decide), ho_s]
  by_cases c1 : x.natAbs ≤ 1000000000
  · rw [if_pos (show -1000000000 ≤ x ∧ x ≤ 1000000000 by omega), if_neg (by decide)]
    by_cases c2 : 1000000000 < y
    · rw [if_pos ((jl_lt (by decide) ⟨by omega, by omega⟩).mpr c2)]
      have nf : ¬ fits9 x y := fun q => by have := q.2; omega
      rw [if_neg nf]
      exact ms_127 h hS hc false hx0 bx by1 by2
    · rw [if_neg (fun q => c2 ((jl_lt (by decide) ⟨by omega, by omega⟩).mp q))]
      have nf : fits9 x y := ⟨by omega, by omega⟩
      rw [if_pos nf]
      exact ms_127 h hS hc true hx0 bx by1 by2
  · rw [if_neg (show ¬ (-1000000000 ≤ x ∧ x ≤ 1000000000) by omega), if_pos (by decide)]
    have nf : ¬ fits9 x y := fun q => by have := q.1; omega
    rw [if_neg nf]
    exact ms_127 h hS hc false hx0 bx by1 by2
theorem ms_frac (h : pk p K) (hS : fm S p K) {c : Nat} (hc : c < 64) {up low x y : Int} (h0 : low ≠ 0) (bu : up.natAbs ≤ 2000000000000000000) (bl : low.natAbs ≤ 2000000000000000000) (hred : red up low x y) : ∃ S1 v u, m_X4_layFraction S (ji c) (jl up) (jl low) = some S1 ∧ vm S1 c (if fits9 x y then 1 else 0) v K u x y ∧ frv p K x y v u ∧ frm S S1 c := by
  obtain ⟨d, x2, y2, d1, d2, d3, d4, d5, d6⟩ := red_ex (up := up) h0
  obtain ⟨e1, e2⟩ := red_uniq h0 hred d6
  subst e1 e2
  have y1 := hred.1
  unfold m_X4_layFraction
  by_cases c0 : up = 0
  · rw [if_pos (by rw [c0]; rfl)]
    have hx : x = 0 := by
      rw [c0] at d4
      rcases Int.mul_eq_zero.mp d4.symm with q | q
      · exact absurd q d3
      · exact q
    have hy : y = 1 := by
      have := hred.2.1
      rw [hx] at this
      simp at this
      omega
    subst hx hy
    obtain ⟨S1, e1, a1, a2, a3, a4, a5, a6, a7⟩ := ms_lay (S := S) hc 1 60 (S.1 0 1) 0
    rw [e1, ho_s, if_neg (oobc hc), if_neg (oobc hc), natc hc]
    obtain ⟨p1, p2, p3, p4, p5⟩ := ms_parts (S := S1) (c := c) 0 1
    exact ⟨_, 60, 0, rfl, ⟨by rw [p3, a1]; rfl, by rw [p3, a2]; rfl, by rw [p3, a3, hS.2.1], by rw [p4, a4]; rfl, fun _ => ⟨p1, p2⟩⟩, Or.inl ⟨rfl, rfl, rfl⟩, a7.tr p5⟩
  · have ax : x.natAbs ≤ up.natAbs := by
      rw [d4, Int.natAbs_mul]
      have := Nat.mul_le_mul_right x.natAbs (show 1 ≤ d.natAbs by omega)
      omega
    have ay : y.natAbs ≤ low.natAbs := by
      rw [d5, Int.natAbs_mul]
      have := Nat.mul_le_mul_right y.natAbs (show 1 ≤ d.natAbs by omega)
      omega
    have ad : d.natAbs ≤ low.natAbs := by
      rw [d5, Int.natAbs_mul]
      have := Nat.mul_le_mul_left d.natAbs (show 1 ≤ y.natAbs by omega)
      omega
    have nx : x ≠ 0 := fun q => c0 (by rw [d4, q, Int.mul_zero])
    have q1 : up.tdiv d = x := by rw [d4]; exact Int.mul_tdiv_cancel_left _ d3
    have q2 : low.tdiv d = y := by rw [d5]; exact Int.mul_tdiv_cancel_left _ d3
    rw [if_neg (jl_ne0 ⟨by omega, by omega⟩ c0)]
    by_cases c : 0 ≤ low
    · have cc := (jl_ler (a := low) (c := 0) (b := 0) ⟨by omega, by omega⟩ rfl (by decide)).mpr c
      rw [if_pos cc]
      unfold m_X4_layFraction_50 m_X4_layFraction_74
      rw [mf_gcd bu bl c, ho_s, show ((Int.gcd up low : Nat) : Int) = d by omega, if_pos cc, if_neg (jl_ne0 ⟨by omega, by omega⟩ d3), if_pos cc, if_neg (jl_ne0 ⟨by omega, by omega⟩ d3), jl_tdiv ⟨by omega, by omega⟩ ⟨by omega, by omega⟩ (by omega), jl_tdiv ⟨by omega, by omega⟩ ⟨by omega, by omega⟩ (by omega), q1, q2]
      exact ms_97 h hS hc nx (by omega) y1 (by omega)
    · have cc := fun q => c ((jl_ler (a := low) (c := 0) (b := 0) ⟨by omega, by omega⟩ rfl (by decide)).mp q)
      rw [if_neg cc, jl_neg]
      unfold m_X4_layFraction_50 m_X4_layFraction_74
      have eg : Int.gcd up (-low) = Int.gcd up low := Int.gcd_neg
      rw [mf_gcd bu (by omega) (by omega), ho_s, eg, show ((Int.gcd up low : Nat) : Int) = -d by omega, if_neg cc, if_neg (jl_ne0 ⟨by omega, by omega⟩ (by omega)), if_neg cc, if_neg (jl_ne0 ⟨by omega, by omega⟩ (by omega)), jl_tdiv ⟨by omega, by omega⟩ ⟨by omega, by omega⟩ (by omega), jl_tdiv ⟨by omega, by omega⟩ ⟨by omega, by omega⟩ (by omega), jl_neg, jl_neg, Int.tdiv_neg, Int.tdiv_neg, q1, q2, Int.neg_neg, Int.neg_neg]
      exact ms_97 h hS hc nx (by omega) y1 (by omega)
/-- a RATIO's lift is small -/
theorem frv_lift (h : pk p K) {x y v u : Int} (hv : frv p K x y v u) (hx : x.natAbs ≤ 1000000000) (hy1 : 1 ≤ y) (hy : y ≤ 1000000000) : -60 ≤ v ∧ v ≤ 60 := by
  have hp := pk_p h
  rcases hv with ⟨-, a, -⟩ | ⟨-, s, t, x1, y1, b1, b2, b3, b4, b5, -⟩
  · omega
  · have lem : ∀ (n : Nat) (a b : Int), a = p ^ n * b → ¬ p ∣ b → a.natAbs ≤ 1000000000 → n ≤ 30 := by
      intro n a b e hb ha
      have hb0 : b ≠ 0 := fun q => hb (by rw [q]; exact Int.dvd_zero _)
      have h1 := (pv_bd hp.1 e hb0).1
      rcases Nat.lt_or_ge n 31 with q | q
      · omega
      · have h2 := pw_le hp.1 q
        have h3 : ∀ n : Nat, (2 : Int) ^ n ≤ p ^ n := by
          intro n
          induction n with
          | zero => simp
          | succ n ih =>
            rw [pw_s, pw_s]
            have := pw_pos (show (2 : Int) ≤ 2 by omega) n
            exact Int.mul_le_mul ih hp.1 (by omega) (by have := pw_pos hp.1 n; omega)
        have h4 := h3 31
        have : (2 : Int) ^ 31 = 2147483648 := by decide
        omega
    have := lem s x x1 b1 b3 hx
    have := lem t y y1 b2 b4 (by omega)
    omega
/-- both lay a fraction alike -/
theorem fr_vok (h : pk p K) {up low x y v u : Int} (hred : red up low x y) (hv : frv p K x y v u) (hv1 : -63 ≤ v) (hv2 : v ≤ 63) : vok p K (if fits9 x y then 1 else 0) v K u x y := by
  have q5 := pw_K h (Nat.le_refl K)
  have hu : 0 ≤ u ∧ u < p ^ K := by
    rcases hv with ⟨-, -, a⟩ | ⟨-, s, t, x1, y1, b1, b2, b3, b4, b5, b6, b7, b8⟩
    · omega
    · exact ⟨b6, b7⟩
  have hz : x = 0 → v = 60 ∧ u = 0 := by
    intro q
    rcases hv with ⟨-, a, b⟩ | ⟨a, -⟩
    · exact ⟨a, b⟩
    · exact absurd q a
  have hk : 0 ≤ (if fits9 x y then (1 : Int) else 0) ∧ (if fits9 x y then (1 : Int) else 0) ≤ 3 := by split <;> omega
  refine ⟨hk.1, hk.2, by omega, by omega, Nat.le_refl K, hu.1, hu.2, fun c => ?_, fun c _ => ?_⟩
  · have hf : fits9 x y := by
      by_cases q : fits9 x y
      · exact q
      · rw [if_neg q] at c; omega
    have hl := frv_lift h hv hf.1 hred.1 hf.2
    exact ⟨rfl, hred.1, hf.2, hf.1, hred.2.1, hl.1, hl.2, hz, fun q => frv_unit h hv q⟩
  · refine frv_unit h hv (fun q => c ?_)
    have := hred.2.1
    rw [q] at this
    simp at this
    rw [if_pos ⟨by omega, by omega⟩]
end
