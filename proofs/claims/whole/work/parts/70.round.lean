/-! figures that come round -/
section
variable {p b w : Int}
/-- where figures come round at once -/
abbrev inr (b a : Int) : Prop := -b ≤ a ∧ a ≤ 0
theorem tl_le {a t : Int} (hp : 2 ≤ p) (e : p * t ≤ p * a) : t ≤ a := Int.le_of_mul_le_mul_left e (by omega)
theorem tl_lt {a t : Int} (hp : 2 ≤ p) (e : p * t < p * a) : t < a := Int.lt_of_mul_lt_mul_left e (by omega)
theorem tl_in (h : stp p b w) {a : Int} (ha : inr b a) : inr b (tl p b w a) := by
  have e := tl_e h a
  have d := dgb h a
  have hp := h.1
  refine ⟨tl_le hp ?_, tl_le hp ?_⟩
  · rw [e, Int.mul_neg]
    have : (p - 1) * b = p * b - b := by rw [Int.sub_mul, Int.one_mul]
    have := ha.1
    omega
  · rw [e, Int.mul_zero]; have := ha.2; omega
theorem tl_up (h : stp p b w) {a : Int} (ha : a ≤ 0) : tl p b w a ≤ 0 := by
  have e := tl_e h a
  have d := dgb h a
  refine tl_le h.1 ?_
  rw [e, Int.mul_zero]; omega
theorem tl_lo (h : stp p b w) {a : Int} (ha : -b ≤ a) : -b ≤ tl p b w a := by
  have e := tl_e h a
  have d := dgb h a
  refine tl_le h.1 ?_
  rw [e, Int.mul_neg]
  have : (p - 1) * b = p * b - b := by rw [Int.sub_mul, Int.one_mul]
  omega
theorem tl_dec (h : stp p b w) {a : Int} (ha : 0 < a) : tl p b w a < a := by
  have e := tl_e h a
  have d := dgb h a
  have hp := h.1
  refine tl_lt hp ?_
  rw [e]
  have : 1 * a < p * a := Int.mul_lt_mul_of_pos_right (by omega) ha
  omega
theorem tl_inc (h : stp p b w) {a : Int} (ha : a < -b) : a < tl p b w a := by
  have e := tl_e h a
  have d := dgb h a
  have hp := h.1
  refine tl_lt hp ?_
  rw [e]
  have h1 : (p - 1) * b = p * b - b := by rw [Int.sub_mul, Int.one_mul]
  have h2 : (p - 1) * (a + b) < (p - 1) * 0 := Int.mul_lt_mul_of_pos_left (by omega) (by omega)
  have h3 : (p - 1) * (a + b) = p * a - a + (p - 1) * b := by rw [Int.mul_add, Int.sub_mul, Int.one_mul]
  omega
theorem it_hi (h : stp p b w) {a : Int} (ha : 0 < a) : ∀ n, it p b w (n + 1) a < a ∧ -b ≤ it p b w (n + 1) a := by
  have hb := h.2.2.1
  intro n
  induction n with
  | zero => exact ⟨tl_dec h ha, tl_lo h (by omega)⟩
  | succ n ih =>
    rw [it_s]
    refine ⟨?_, tl_lo h ih.2⟩
    by_cases q : 0 < it p b w (n + 1) a
    · have := tl_dec h q; omega
    · have := tl_up h (a := it p b w (n + 1) a) (by omega); omega
theorem it_lo (h : stp p b w) {a : Int} (ha : a < -b) : ∀ n, a < it p b w (n + 1) a ∧ it p b w (n + 1) a ≤ 0 := by
  have hb := h.2.2.1
  intro n
  induction n with
  | zero => exact ⟨tl_inc h ha, tl_up h (by omega)⟩
  | succ n ih =>
    rw [it_s]
    refine ⟨?_, tl_up h ih.2⟩
    by_cases q : it p b w (n + 1) a < -b
    · have := tl_inc h q; omega
    · have := tl_lo h (a := it p b w (n + 1) a) (by omega); omega
theorem it_add (n : Nat) : ∀ (k : Nat) (a : Int), it p b w (k + n) a = it p b w n (it p b w k a) := by
  intro k
  induction k with
  | zero => intro a; rw [Nat.zero_add]; rfl
  | succ k ih => intro a; rw [show k + 1 + n = (k + n) + 1 by omega]; exact ih (tl p b w a)
/-- what is not in never comes again -/
theorem out_ne (h : stp p b w) {x : Int} {i k : Nat} (hik : i < k) (ho : ¬ inr b (it p b w i x)) : it p b w i x ≠ it p b w k x := by
  obtain ⟨n, rfl⟩ : ∃ n, k = i + (n + 1) := ⟨k - i - 1, by omega⟩
  rw [it_add]
  generalize it p b w i x = a at *
  by_cases q : 0 < a
  · have := (it_hi h q n).1; omega
  · have : a < -b := by
      by_cases z : a < -b
      · exact z
      · exact absurd ⟨by omega, by omega⟩ ho
    have := (it_lo h this n).1; omega
theorem tl_inj (h : stp p b w) {a c : Int} (ha : inr b a) (hc : inr b c) (e : tl p b w a = tl p b w c) : a = c := by
  have e1 := tl_e h a
  have e2 := tl_e h c
  rw [e] at e1
  have d1 := dg_lt h a
  have d2 := dg_lt h c
  have z0 : dg p w 0 = 0 := by unfold dg; rw [Int.zero_emod, Int.zero_mul, Int.zero_emod]
  have hb := h.2.2.1
  have e3 : a - c = (dg p w a - dg p w c) * b := by rw [Int.sub_mul]; omega
  rcases Int.lt_trichotomy (dg p w a) (dg p w c) with q | q | q
  · have : (dg p w a - dg p w c) * b ≤ (-1) * b := Int.mul_le_mul_of_nonneg_right (by omega) (by omega)
    have hc0 : c = 0 := by omega
    rw [hc0, z0] at q
    omega
  · rw [q, Int.sub_self, Int.zero_mul] at e3; omega
  · have : 1 * b ≤ (dg p w a - dg p w c) * b := Int.mul_le_mul_of_nonneg_right (by omega) (by omega)
    have ha0 : a = 0 := by omega
    rw [ha0, z0] at q
    omega
theorem it_in (h : stp p b w) {x : Int} (hx : inr b x) : ∀ n, inr b (it p b w n x) := by
  intro n
  induction n with
  | zero => exact hx
  | succ n ih => rw [it_s]; exact tl_in h ih
theorem it_inj (h : stp p b w) {a c : Int} (ha : inr b a) (hc : inr b c) : ∀ n, it p b w n a = it p b w n c → a = c := by
  intro n
  induction n with
  | zero => intro e; exact e
  | succ n ih =>
    intro e
    rw [it_s, it_s] at e
    exact ih (tl_inj h (it_in h ha n) (it_in h hc n) e)
/-- nothing comes twice before it comes round -/
theorem no_rep (h : stp p b w) {x : Int} {s k i : Nat} (hs : ∀ j, j < s → ¬ inr b (it p b w j x)) (hin : inr b (it p b w s x)) (ht : ∀ t, 1 ≤ t → s + t ≤ k → it p b w (s + t) x ≠ it p b w s x) (hik : i < k) : it p b w i x ≠ it p b w k x := by
  by_cases q : i < s
  · exact out_ne h hik (hs i q)
  · intro e
    obtain ⟨d, rfl⟩ : ∃ d, i = s + d := ⟨i - s, by omega⟩
    obtain ⟨t, rfl⟩ : ∃ t, k = (s + t) + d := ⟨k - s - d, by omega⟩
    rw [it_add d s, it_add d (s + t)] at e
    have hin2 : inr b (it p b w (s + t) x) := by rw [it_add]; exact it_in h hin t
    exact ht t (by omega) (by omega) (it_inj h hin hin2 d e).symm
theorem it_bd (h : stp p b w) {x : Int} (h1 : -1000000000 ≤ x) (h2 : x ≤ 1000000000) : ∀ n, -1000000000 ≤ it p b w n x ∧ it p b w n x ≤ 1000000000 := by
  intro n
  induction n with
  | zero => exact ⟨h1, h2⟩
  | succ n ih => rw [it_s]; exact tl_bd h h.2.2.2.1 ih.1 ih.2
end
section
variable {S SC SM : St} {p : Int} {K : Nat} {b w : Int}
/-- the class's first loop: the first that is in -/
theorem cr_first (h : pk p K) (hS : fc S p K) (st : stp p b w) {x : Int} (hx1 : -1000000000 ≤ x) (hx2 : x ≤ 1000000000) {y : Int32} : ∀ (j n k : Nat), k + j = 2000 → j < n → (∀ i, i < k → ¬ inr b (it p b w i x)) → ∃ s, s ≤ 2000 ∧ (∀ i, i < s → ¬ inr b (it p b w i x)) ∧ (s = 2000 ∨ inr b (it p b w s x)) ∧ m_X3_comingRound_40 S n y (jl b) (jl (it p b w k x)) (ji w) (ji k) = m_X3_comingRound_83 S y (jl b) (jl (it p b w s x)) (ji w) (ji s) := by
  have hb := st.2.2.2.1
  have hb1 := st.2.2.1
  intro j
  induction j with
  | zero =>
    intro n k hk hn ho
    obtain ⟨n, rfl⟩ : ∃ t, n = t + 1 := ⟨n - 1, by omega⟩
    unfold m_X3_comingRound_40
    rw [if_pos ((ji_ler (a := k) (c := 2000) (b := 2000) ⟨by omega, by omega⟩ rfl (by decide)).mpr (by omega))]
    exact ⟨k, by omega, ho, Or.inl (by omega), rfl⟩
  | succ j ih =>
    intro n k hk hn ho
    obtain ⟨n, rfl⟩ : ∃ t, n = t + 1 := ⟨n - 1, by omega⟩
    have bd := it_bd st hx1 hx2 k
    have e63 : m_X3_comingRound_63 S (fun x2 x3 x5 x7 x8 => m_X3_comingRound_40 S n x2 x3 x5 x7 x8) y (jl b) (jl (it p b w k x)) (ji w) (ji k) = m_X3_comingRound_40 S n y (jl b) (jl (it p b w (k + 1) x)) (ji w) (ji (k + 1 : Nat)) := by
      unfold m_X3_comingRound_63
      dsimp only
      rw [cf_tail h hS st bd.1 bd.2, ho_s, ← it_s, show (1 : Int32) = ji 1 from rfl, ji_add]
      rfl
    have out : ¬ inr b (it p b w k x) → ∃ s, s ≤ 2000 ∧ (∀ i, i < s → ¬ inr b (it p b w i x)) ∧ (s = 2000 ∨ inr b (it p b w s x)) ∧ m_X3_comingRound_63 S (fun x2 x3 x5 x7 x8 => m_X3_comingRound_40 S n x2 x3 x5 x7 x8) y (jl b) (jl (it p b w k x)) (ji w) (ji k) = m_X3_comingRound_83 S y (jl b) (jl (it p b w s x)) (ji w) (ji s) := by
      intro no
      rw [e63]
      refine ih n (k + 1) (by omega) (by omega) (fun i hi => ?_)
      by_cases q : i = k
      · rw [q]; exact no
      · exact ho i (by omega)
    unfold m_X3_comingRound_40
    rw [if_neg (fun q => by have := (ji_ler (a := k) (c := 2000) (b := 2000) ⟨by omega, by omega⟩ rfl (by decide)).mp q; omega), jl_neg]
    by_cases c1 : 0 < it p b w k x
    · rw [if_pos ((jl_ltr (c := 0) (b := 0) ⟨by omega, by omega⟩ rfl (by decide)).mpr c1)]
      exact out (fun q => by have := q.2; omega)
    · rw [if_neg (fun q => c1 ((jl_ltr (c := 0) (b := 0) ⟨by omega, by omega⟩ rfl (by decide)).mp q))]
      by_cases c2 : -b ≤ it p b w k x
      · rw [if_pos ((jl_le ⟨by omega, by omega⟩ ⟨by omega, by omega⟩).mpr c2)]
        exact ⟨k, by omega, ho, Or.inr ⟨c2, by omega⟩, rfl⟩
      · rw [if_neg (fun q => c2 ((jl_le ⟨by omega, by omega⟩ ⟨by omega, by omega⟩).mp q))]
        exact out (fun q => c2 q.1)
/-- the class's second loop: how soon it comes again -/
theorem cr_per (h : pk p K) (hS : fc S p K) (st : stp p b w) {x : Int} (hx1 : -1000000000 ≤ x) (hx2 : x ≤ 1000000000) {y : Int32} {s : Nat} (hs : s ≤ 2000) : ∀ (j n q : Nat), q + j = 2001 - s → 1 ≤ q → j < n → (∀ t, 1 ≤ t → t < q → it p b w (s + t) x ≠ it p b w s x) → (∃ t, 1 ≤ t ∧ s + t ≤ 2000 ∧ it p b w (s + t) x = it p b w s x ∧ (∀ t', 1 ≤ t' → t' < t → it p b w (s + t') x ≠ it p b w s x) ∧ m_X3_comingRound_90 S n y (jl b) (jl (it p b w (s + (q - 1)) x)) (ji w) (ji s) (jl (it p b w s x)) (ji q) = m_X3_comingRound_123 S y (ji s) (ji t)) ∨ ((∀ t, 1 ≤ t → s + t ≤ 2000 → it p b w (s + t) x ≠ it p b w s x) ∧ m_X3_comingRound_90 S n y (jl b) (jl (it p b w (s + (q - 1)) x)) (ji w) (ji s) (jl (it p b w s x)) (ji q) = some (-1)) := by
  intro j
  induction j with
  | zero =>
    intro n q hq hq1 hn ho
    obtain ⟨n, rfl⟩ : ∃ t, n = t + 1 := ⟨n - 1, by omega⟩
    unfold m_X3_comingRound_90
    rw [ji_add, if_pos ((ji_ltr (a := (s : Int) + q) (c := 2000) (b := 2000) ⟨by omega, by omega⟩ rfl (by decide)).mpr (by omega))]
    exact Or.inr ⟨fun t a1 a2 => ho t a1 (by omega), rfl⟩
  | succ j ih =>
    intro n q hq hq1 hn ho
    obtain ⟨n, rfl⟩ : ∃ t, n = t + 1 := ⟨n - 1, by omega⟩
    have bd := it_bd st hx1 hx2 (s + (q - 1))
    have bd2 := it_bd st hx1 hx2 (s + q)
    have bd3 := it_bd st hx1 hx2 s
    have e : tl p b w (it p b w (s + (q - 1)) x) = it p b w (s + q) x := by rw [← it_s]; congr 1; omega
    unfold m_X3_comingRound_90
    rw [ji_add, if_neg (fun z => by have := (ji_ltr (a := (s : Int) + q) (c := 2000) (b := 2000) ⟨by omega, by omega⟩ rfl (by decide)).mp z; omega), cf_tail h hS st bd.1 bd.2, ho_s, e]
    by_cases c : it p b w (s + q) x = it p b w s x
    · rw [if_pos (by rw [c])]
      exact Or.inl ⟨q, hq1, by omega, c, ho, rfl⟩
    · rw [if_neg (fun z => c ((jl_eq ⟨by omega, by omega⟩ ⟨by omega, by omega⟩).mp z)), show (1 : Int32) = ji 1 from rfl, ji_add]
      have := ih n (q + 1) (by omega) (by omega) (by omega) (fun t a1 a2 => by
        by_cases z : t = q
        · rw [z]; exact c
        · exact ho t a1 (by omega))
      rw [show q + 1 - 1 = q by omega] at this
      exact this
/-- the reference looks back -/
theorem mr_in {T : St} {x : Int} {k : Nat} (hk : k ≤ 2000) (st : stp p b w) (hx1 : -1000000000 ≤ x) (hx2 : x ≤ 1000000000) (hT : ∀ i, i < k → T.2 11 i = jl (it p b w i x)) {y : Int32} {k85 : St → Int32 → Int64 → Int64 → Int64 → Int32 → Option (Int32 × St)} : ∀ (j n i : Nat), i + j = k → j < n → (∀ t, t < i → it p b w t x ≠ it p b w k x) → (∃ t, t < k ∧ it p b w t x = it p b w k x ∧ (∀ t', t' < t → it p b w t' x ≠ it p b w k x) ∧ m_X4_round_96 k85 n T y (jl (it p b w k x)) (jl b) (jl w) (ji k) (ji i) = m_X4_round_115 T y (ji k) (ji t)) ∨ ((∀ t, t < k → it p b w t x ≠ it p b w k x) ∧ m_X4_round_96 k85 n T y (jl (it p b w k x)) (jl b) (jl w) (ji k) (ji i) = m_X4_round_136 k85 T y (jl (it p b w k x)) (jl b) (jl w) (ji k)) := by
  have bk := it_bd st hx1 hx2 k
  intro j
  induction j with
  | zero =>
    intro n i hi hn ho
    obtain ⟨n, rfl⟩ : ∃ t, n = t + 1 := ⟨n - 1, by omega⟩
    unfold m_X4_round_96
    rw [if_pos ((ji_le ⟨by omega, by omega⟩ ⟨by omega, by omega⟩).mpr (by omega))]
    exact Or.inr ⟨fun t a => ho t (by omega), rfl⟩
  | succ j ih =>
    intro n i hi hn ho
    obtain ⟨n, rfl⟩ : ∃ t, n = t + 1 := ⟨n - 1, by omega⟩
    have bi := it_bd st hx1 hx2 i
    unfold m_X4_round_96
    rw [if_neg (fun z => by have := (ji_le (a := k) (b := i) ⟨by omega, by omega⟩ ⟨by omega, by omega⟩).mp z; omega), if_neg (by rw [ji_oob ⟨by omega, by omega⟩]; omega), ji_nat ⟨by omega, by omega⟩, show ((i : Int)).toNat = i by omega, hT i (by omega)]
    by_cases c : it p b w i x = it p b w k x
    · rw [if_pos (by rw [c])]
      exact Or.inl ⟨i, by omega, c, ho, rfl⟩
    · rw [if_neg (fun z => c ((jl_eq ⟨by omega, by omega⟩ ⟨by omega, by omega⟩).mp z)), show (1 : Int32) = ji 1 from rfl, ji_add]
      exact ih n (i + 1) (by omega) (by omega) (fun t a => by
        by_cases z : t = i
        · rw [z]; exact c
        · exact ho t (by omega))
/-- only the row of states changes -/
def sc11 (S S1 : St) : Prop := S1.1 = S.1 ∧ ∀ q, q ≠ 11 → S1.2 q = S.2 q
theorem sc11.fm {S1 : St} (h : sc11 S S1) (hS : fm S p K) : fm S1 p K := ⟨by rw [h.1]; exact hS.1, by rw [h.1]; exact hS.2.1, fun j hj => by rw [h.2 1 (by omega)]; exact hS.2.2 j hj⟩
/-- the reference's loop: e is where something comes again, of f first -/
theorem mr_out (h : pk p K) (hS : fm SM p K) (st : stp p b w) {x : Int} (hx1 : -1000000000 ≤ x) (hx2 : x ≤ 1000000000) {y : Int32} {e : Nat} (he : e ≤ 2001) (hno : ∀ k, k < e → ∀ i, i < k → it p b w i x ≠ it p b w k x) {f : Nat} (hf : e ≤ 2000 → f < e ∧ it p b w f x = it p b w e x ∧ ∀ i, i < f → it p b w i x ≠ it p b w e x) : ∀ (j n k : Nat) (T : St), k + j = e → j + 1 < n → sc11 SM T → (∀ i, i < k → T.2 11 i = jl (it p b w i x)) → ∃ T1, sc11 SM T1 ∧ m_X4_round_85 n T y (jl (it p b w k x)) (jl b) (jl w) (ji k) = if e ≤ 2000 then m_X4_round_115 T1 y (ji e) (ji f) else some (-1, T1) := by
  have hp := pk_p h
  intro j
  induction j with
  | zero =>
    intro n k T hk hn hT hi
    obtain ⟨n, rfl⟩ : ∃ t, n = t + 1 := ⟨n - 1, by omega⟩
    have ek : k = e := by omega
    subst ek
    unfold m_X4_round_85
    by_cases c : k ≤ 2000
    · rw [if_neg (fun z => by have := (ji_ltr (a := k) (c := 2000) (b := 2000) ⟨by omega, by omega⟩ rfl (by decide)).mp z; omega)]
      simp only [if_pos c]
      obtain ⟨f1, f2, f3⟩ := hf c
      rcases mr_in c st hx1 hx2 hi (y := y) (k85 := fun S x2 x3 x5 x7 x9 => m_X4_round_85 n S x2 x3 x5 x7 x9) k fu 0 (by omega) (by rw [fu_v]; omega) (fun t a => by omega) with ⟨t, t1, t2, t3, t4⟩ | ⟨t1, -⟩
      · have et : t = f := by
          rcases Nat.lt_trichotomy t f with q | q | q
          · exact absurd t2 (f3 t q)
          · exact q
          · exact absurd f2 (t3 f q)
        subst et
        exact ⟨T, hT, t4⟩
      · exact absurd f2 (t1 f f1)
    · rw [if_pos ((ji_ltr (a := k) (c := 2000) (b := 2000) ⟨by omega, by omega⟩ rfl (by decide)).mpr (by omega))]
      simp only [if_neg c]
      exact ⟨T, hT, rfl⟩
  | succ j ih =>
    intro n k T hk hn hT hi
    obtain ⟨n, rfl⟩ : ∃ t, n = t + 1 := ⟨n - 1, by omega⟩
    have bk := it_bd st hx1 hx2 k
    unfold m_X4_round_85
    rw [if_neg (fun z => by have := (ji_ltr (a := k) (c := 2000) (b := 2000) ⟨by omega, by omega⟩ rfl (by decide)).mp z; omega)]
    rcases mr_in (show k ≤ 2000 by omega) st hx1 hx2 hi (y := y) (k85 := fun S x2 x3 x5 x7 x9 => m_X4_round_85 n S x2 x3 x5 x7 x9) k fu 0 (by omega) (by rw [fu_v]; omega) (fun t a => by omega) with ⟨t, t1, t2, t3, t4⟩ | ⟨t1, t2⟩
    · exact absurd t2 (hno k (by omega) t t1)
    · rw [show (0 : Int32) = ji (0 : Nat) from rfl, t2]
      unfold m_X4_round_136
      obtain ⟨e1, e2, e3⟩ := mf_dg h hS st bk.1 bk.2
      have hT2 : sc11 SM (st_L T 11 k (jl (it p b w k x))) := ⟨hT.1, fun q hq => by funext j; simp only [st_L]; rw [if_neg (by omega)]; exact congrFun (hT.2 q hq) j⟩
      rw [if_neg (by rw [ji_oob ⟨by omega, by omega⟩]; omega), ji_nat ⟨by omega, by omega⟩, show ((k : Int)).toNat = k by omega, mf_p h (hT2.fm hS), e1, ho_s, if_neg (jl_ne0 ⟨by omega, by omega⟩ (by omega)), if_neg (jl_ne0 ⟨by omega, by omega⟩ (by omega)), e2, e3, ← it_s, show (1 : Int32) = ji 1 from rfl, ji_add]
      refine ih n (k + 1) _ (by omega) (by omega) hT2 (fun i a => ?_)
      by_cases z : i = k
      · subst z; simp [st_L]
      · simp only [st_L]; rw [if_neg (by omega)]; exact hi i (by omega)
end
section
variable {SC SM : St}
theorem R_round (R : Rel SC SM) (x y : Int32) : ∃ r SM1, m_X3_round SC x y = some r ∧ m_X4_round SM x y = some (r, SM1) ∧ Rel SC SM1 := by
  have R0 := R
  obtain ⟨p, K, m, z, R⟩ := R
  obtain ⟨h1, h2, h3, h4, h5, h6, -⟩ := id R
  have hp := pk_p h1
  have hK := pk_K h1
  unfold m_X3_round m_X4_round
  rcases fnd R x with ⟨e1, e2⟩ | ⟨i, hi, rfl, e1, e2⟩
  · rw [e1, e2]; exact ⟨_, _, rfl, rfl, R0⟩
  · obtain ⟨k, v, n, u, a, b, B, bv1, bv2, -⟩ := R.2.2.2.2.2.2.2.2.2.2.2 i hi
    obtain ⟨r1, r2, r3, r4, r5, r6⟩ := vok_r h1 B.2.2
    have hi64 : i < 64 := by omega
    have hrx := kcV (show i < 63 by omega)
    have hy := ri_of y
    rw [e1, e2, ho_s, ho_s, if_neg (by decide), mf_in32 y 0 1 0 1 rfl rfl (by decide) (by decide), ho_s]
    simp only [if_neg (oobc hi64), natc hi64]
    rw [if_pos hrx, B.1.1, B.2.1.1]
    have ey : y = ji y.toInt := ji_of y
    generalize y.toInt = t at *
    subst ey
    by_cases c1 : t < 0
    · rw [if_pos ((ji_ltl (c := 0) (b := 0) hy rfl (by decide)).mpr c1), if_neg (show ¬ (0 ≤ t ∧ t ≤ 1) by omega), if_pos rfl]
      exact ⟨_, _, rfl, rfl, R0⟩
    rw [if_neg (fun q => c1 ((ji_ltl (c := 0) (b := 0) hy rfl (by decide)).mp q))]
    by_cases c2 : t ≤ 1
    · rw [if_pos ((ji_lel (c := 1) (b := 1) hy rfl (by decide)).mpr c2), if_pos (show 0 ≤ t ∧ t ≤ 1 by omega), if_neg (show ¬ (1 : Int32) = 0 by decide)]
      by_cases q1 : k = 1
      · subst q1
        have k1 : ji 1 = 1 := rfl
        simp only [if_pos k1]
        rw [cs_zero h1 hrx B.1 B.2.2, ms_zero h1 hi64 B.2.1 B.2.2, ho_s, ho_s]
        by_cases q : zro 1 a
        · simp only [if_pos q, if_neg (show ¬ (1 : Int32) = 0 by decide)]; exact ⟨_, _, rfl, rfl, R0⟩
        simp only [if_neg q]
        rw [if_pos trivial, if_pos trivial]
        have ha : a ≠ 0 := fun z => q ⟨rfl, z⟩
        obtain ⟨X, Y, w, st, bx1, bx2, f1, f2, f3, f4, f5, f6, f7⟩ := ratio_parts h1 h2 h3 hi64 B ha
        rw [f4, ho_s, f5, ho_s, mf_p h1 h3, f6, ho_s, show (1 : Int32) = ji 1 from rfl, f7, ho_s]
        -- the class
        have ec : ∀ yy : Int32, m_X3_round_51 SC yy (6 + 2 * i) = m_X3_comingRound_40 SC fu yy (jl Y) (jl X) (ji w) (0 : Int32) := by
          intro yy
          unfold m_X3_round_51 m_X3_comingRound
          rw [if_pos hrx, f1, ho_s, f2, ho_s, f3, ho_s]
          cases m_X3_comingRound_40 SC fu yy (jl Y) (jl X) (ji w) (0 : Int32) <;> rfl
        obtain ⟨yy, hyy⟩ : ∃ yy : Int32, yy = if ji t = 0 then ji 1 else 0 := ⟨_, rfl⟩
        have ec2 : (if ji t = 0 then m_X3_round_51 SC (ji 1) (6 + 2 * i) else m_X3_round_51 SC 0 (6 + 2 * i)) = m_X3_comingRound_40 SC fu yy (jl Y) (jl X) (ji w) (0 : Int32) := by
          rw [ec, ec, hyy]; split <;> rfl
        rw [ec2]
        obtain ⟨s, s1, s2, s3, s4⟩ := cr_first h1 h2 st bx1 bx2 (y := yy) 2000 fu 0 (by omega) (by rw [fu_v]; omega) (fun i hi => by omega)
        rw [show it p Y w 0 X = X from rfl, show ji ((0 : Nat) : Int) = 0 from rfl] at s4
        rw [s4]
        unfold m_X3_comingRound_83
        have RS : ∀ T1, sc11 SM T1 → Rel SC T1 := fun T1 hT => ⟨p, K, m, z, R.scr scC.rf ⟨fun q j _ _ _ _ => by rw [hT.1], fun q j a1 a2 _ => by rw [hT.2 q (by omega)]⟩⟩
        rcases cr_per h1 h2 st bx1 bx2 (y := yy) s1 (2000 - s) fu 1 (by omega) (by omega) (by rw [fu_v]; omega) (fun t a1 a2 => by omega) with ⟨t9, g1, g2, g3, g4, g5⟩ | ⟨g1, g2⟩
        · rw [show s + (1 - 1) = s by omega, show ji ((1 : Nat) : Int) = 1 from rfl] at g5
          have hin : inr Y (it p Y w s X) := s3.resolve_left (fun q => by omega)
          obtain ⟨T1, o1, o2⟩ := mr_out h1 h3 st bx1 bx2 (y := ji t) (e := s + t9) (by omega) (fun k hk i hik => no_rep st s2 hin (fun t a1 a2 => g4 t a1 (by omega)) hik) (f := s) (fun _ => ⟨by omega, g3.symm, fun i hi => out_ne st (by omega) (s2 i hi)⟩) (s + t9) fu 0 SM (by omega) (by rw [fu_v]; omega) ⟨rfl, fun _ _ => rfl⟩ (fun i hi => by omega)
          rw [show it p Y w 0 X = X from rfl, show ji ((0 : Nat) : Int) = 0 from rfl, if_pos g2] at o2
          rw [g5, o2]
          unfold m_X3_comingRound_123 m_X4_round_115
          by_cases c0 : ji t = 0
          · rw [if_pos c0, hyy, if_pos c0, if_neg (by decide)]
            exact ⟨_, _, rfl, rfl, RS T1 o1⟩
          · rw [if_neg c0, hyy, if_neg c0, if_pos rfl, ji_sub, show ((s + t9 : Nat) : Int) - (s : Int) = t9 by omega]
            exact ⟨_, _, rfl, rfl, RS T1 o1⟩
        · rw [show s + (1 - 1) = s by omega, show ji ((1 : Nat) : Int) = 1 from rfl] at g2
          have hno : ∀ k, k < 2001 → ∀ i, i < k → it p Y w i X ≠ it p Y w k X := by
            intro k hk i hik
            by_cases hin : inr Y (it p Y w s X)
            · exact no_rep st s2 hin (fun t a1 a2 => g1 t a1 (by omega)) hik
            · have : s = 2000 := s3.resolve_right hin
              exact out_ne st hik (s2 i (by omega))
          obtain ⟨T1, o1, o2⟩ := mr_out h1 h3 st bx1 bx2 (y := ji t) (e := 2001) (by omega) hno (f := 0) (fun q => by omega) 2001 fu 0 SM (by omega) (by rw [fu_v]; omega) ⟨rfl, fun _ _ => rfl⟩ (fun i hi => by omega)
          rw [show it p Y w 0 X = X from rfl, show ji ((0 : Nat) : Int) = 0 from rfl, if_neg (by omega)] at o2
          rw [g2, o2]
          exact ⟨_, _, rfl, rfl, RS T1 o1⟩
      · have k1 : ¬ ji k = 1 := fun z => q1 ((ji_eql (c := 1) (b := 1) r1 rfl (by decide)).mp z)
        simp only [if_neg k1]
        exact ⟨_, _, rfl, rfl, R0⟩
    · rw [if_neg (fun q => c2 ((ji_lel (c := 1) (b := 1) hy rfl (by decide)).mp q)), if_neg (show ¬ (0 ≤ t ∧ t ≤ 1) by omega), if_pos rfl]
      exact ⟨_, _, rfl, rfl, R0⟩
end
