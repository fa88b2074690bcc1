/-! the class's state and the reference's: what holds between the calls -/
def good (p : Int) (c : Nat → Int) (f : Int) : Prop := hz c f 8 0 % p = 0 ∧ hz (sl c) f 7 0 % p ≠ 0
/-- a ROOT's first figure and polynomial, at the class's cell r and the reference's column i -/
def rootd (p : Int) (SC SM : St) (r i : Nat) : Prop := ∃ f c, SC.1 r 7 = ji f ∧ SM.1 8 i = ji f ∧ 0 ≤ f ∧ f < p ∧ cf8 (SC.1 (r + 1)) c ∧ cf8 (fun j => SM.1 9 (8 * i + j)) c ∧ good p c f
def hold (p : Int) (K : Nat) (SC SM : St) (i : Nat) : Prop := ∃ k v n u a b, bth p K SC SM (6 + 2 * i) i k v n u a b ∧ -60 ≤ v ∧ v ≤ 60 ∧ (k = 2 → rootd p SC SM (6 + 2 * i) i)
def RelP (p : Int) (K m : Nat) (z : Int) (SC SM : St) : Prop := pk p K ∧ fc SC p K ∧ fm SM p K ∧ m ≤ 60 ∧ SC.1 0 7 = ji m ∧ SM.1 0 3 = ji m ∧ (z = 0 ∨ z = 1) ∧ SC.1 0 8 = ji z ∧ SM.1 0 4 = ji z ∧ (z = 1 → 1 ≤ m) ∧ (∃ c, cf8 (SC.1 5) c ∧ cf8 (SM.1 10) c) ∧ ∀ i, i < m → hold p K SC SM i
def Rel (SC SM : St) : Prop := ∃ p K m z, RelP p K m z SC SM
def scC (S S1 : St) : Prop := ∀ q, q < 126 → S1.1 q = S.1 q ∧ S1.2 q = S.2 q
def scM (S S1 : St) : Prop := ∀ q j, ¬ (2 ≤ q ∧ q ≤ 7 ∧ 60 ≤ j) → S1.1 q j = S.1 q j ∧ S1.2 q j = S.2 q j
theorem scC.rf {S : St} : scC S S := fun _ _ => ⟨rfl, rfl⟩
theorem scM.rf {S : St} : scM S S := fun _ _ _ => ⟨rfl, rfl⟩
theorem scC.tr {S S1 S2 : St} (h1 : scC S S1) (h2 : scC S1 S2) : scC S S2 := fun q hq => ⟨(h2 q hq).1.trans (h1 q hq).1, (h2 q hq).2.trans (h1 q hq).2⟩
theorem scM.tr {S S1 S2 : St} (h1 : scM S S1) (h2 : scM S1 S2) : scM S S2 := fun q j hq => ⟨(h2 q j hq).1.trans (h1 q j hq).1, (h2 q j hq).2.trans (h1 q j hq).2⟩
theorem frc.sc {S S1 : St} {r : Nat} (h : frc S S1 r) (hr : 126 ≤ r) : scC S S1 := fun q hq => h.1 q (by omega)
theorem frm.sc {S S1 : St} {c : Nat} (h : frm S S1 c) (hc : 60 ≤ c) : scM S S1 := fun q j hq => h q j (by omega)
section
variable {SC SM SC1 SM1 : St} {p : Int} {K m : Nat} {z : Int}
theorem scC.fc (h : scC SC SC1) (hS : fc SC p K) : fc SC1 p K := by
  obtain ⟨a1, a2⟩ := h 1 (by omega)
  obtain ⟨b1, b2⟩ := h 2 (by omega)
  exact ⟨by rw [a1]; exact hS.1, by rw [a1]; exact hS.2.1, fun j hj => by rw [b2]; exact hS.2.2 j hj⟩
theorem scM.fm (h : scM SM SM1) (hS : fm SM p K) : fm SM1 p K :=
  ⟨by rw [(h 0 0 (by omega)).1]; exact hS.1, by rw [(h 0 1 (by omega)).1]; exact hS.2.1, fun j hj => by rw [(h 1 j (by omega)).2]; exact hS.2.2 j hj⟩
theorem bth.to {r c : Nat} {k v u a b : Int} {n : Nat} (h : bth p K SC SM r c k v n u a b) (h1 : SC1.1 r = SC.1 r) (h2 : SC1.2 r = SC.2 r) (h3 : ∀ q, 2 ≤ q → q ≤ 7 → SM1.1 q c = SM.1 q c ∧ SM1.2 q c = SM.2 q c) : bth p K SC1 SM1 r c k v n u a b := by
  obtain ⟨⟨a1, a2, a3, a4, a5⟩, ⟨b1, b2, b3, b4, b5⟩, hv⟩ := h
  refine ⟨⟨by rw [h1]; exact a1, by rw [h1]; exact a2, by rw [h1]; exact a3, by rw [h2]; exact a4, fun q => by rw [h1]; exact a5 q⟩, ⟨by rw [(h3 2 (by omega) (by omega)).1]; exact b1, by rw [(h3 3 (by omega) (by omega)).1]; exact b2, by rw [(h3 4 (by omega) (by omega)).1]; exact b3, by rw [(h3 5 (by omega) (by omega)).2]; exact b4, fun q => by rw [(h3 6 (by omega) (by omega)).2, (h3 7 (by omega) (by omega)).2]; exact b5 q⟩, hv⟩
theorem bth.sc {i : Nat} {k v u a b : Int} {n : Nat} (h : bth p K SC SM (6 + 2 * i) i k v n u a b) (hi : i < 60) (hC : scC SC SC1) (hM : scM SM SM1) : bth p K SC1 SM1 (6 + 2 * i) i k v n u a b :=
  h.to (hC _ (by omega)).1 (hC _ (by omega)).2 (fun q _ _ => hM q i (by omega))
theorem rootd.to {r i : Nat} (h : rootd p SC SM r i) (h1 : SC1.1 r = SC.1 r) (h2 : SC1.1 (r + 1) = SC.1 (r + 1)) (h3 : SM1.1 8 i = SM.1 8 i) (h4 : ∀ j, j < 8 → SM1.1 9 (8 * i + j) = SM.1 9 (8 * i + j)) : rootd p SC1 SM1 r i := by
  obtain ⟨f, c, a1, a2, a3, a4, a5, a6, a7⟩ := h
  exact ⟨f, c, by rw [h1]; exact a1, by rw [h3]; exact a2, a3, a4, by rw [h2]; exact a5, fun j hj => by show SM1.1 9 (8 * i + j) = ji (c j) ∧ _; rw [h4 j hj]; exact a6 j hj, a7⟩
theorem hold.sc {i : Nat} (h : hold p K SC SM i) (hi : i < 60) (hC : scC SC SC1) (hM : scM SM SM1) : hold p K SC1 SM1 i := by
  obtain ⟨k, v, n, u, a, b, h1, h2, h3, h4⟩ := h
  exact ⟨k, v, n, u, a, b, h1.sc hi hC hM, h2, h3, fun q => (h4 q).to (hC _ (by omega)).1 (hC _ (by omega)).1 (hM 8 i (by omega)).1 (fun j _ => (hM 9 _ (by omega)).1)⟩
theorem RelP.sc (R : RelP p K m z SC SM) (hC : scC SC SC1) (hM : scM SM SM1) : RelP p K m z SC1 SM1 := by
  obtain ⟨h1, h2, h3, h4, h5, h6, h7, h8, h9, h10, ⟨c, h11, h12⟩, h13⟩ := R
  refine ⟨h1, hC.fc h2, hM.fm h3, h4, by rw [(hC 0 (by omega)).1]; exact h5, by rw [(hM 0 3 (by omega)).1]; exact h6, h7, by rw [(hC 0 (by omega)).1]; exact h8, by rw [(hM 0 4 (by omega)).1]; exact h9, h10, ⟨c, by rw [(hC 5 (by omega)).1]; exact h11, fun j hj => by rw [(hM 10 j (by omega)).1]; exact h12 j hj⟩, fun i hi => (h13 i hi).sc (by omega) hC hM⟩
/-- is there such a NUMBER: both say so alike -/
theorem fnd (R : RelP p K m z SC SM) (x : Int32) : (m_X3_find SC x = some none ∧ m_X4_isNumber SM x = some 0) ∨ ∃ i : Nat, i < m ∧ x = ji i ∧ m_X3_find SC x = some (some (6 + 2 * i)) ∧ m_X4_isNumber SM x = some 1 := by
  obtain ⟨h1, h2, h3, h4, h5, h6, -⟩ := R
  have hx := ri_of x
  have e : x = ji x.toInt := ji_of x
  generalize x.toInt = y at *
  subst e
  have en : m_X4_isNumber SM (ji y) = some (if 0 ≤ y ∧ y ≤ (m : Int) - 1 then 1 else 0) := by
    unfold m_X4_isNumber
    rw [h6, show ji (m : Int) - (1 : Int32) = ji ((m : Int) - 1) from ji_sub m 1, ji_l hx, ji_l ⟨by omega, by omega⟩, show (0 : Int64) = jl 0 from rfl, mf_in ⟨by omega, by omega⟩ (by decide) ⟨by omega, by omega⟩, ho_s]
    by_cases q : 0 ≤ y ∧ y ≤ (m : Int) - 1
    · rw [if_pos q]; rfl
    · rw [if_neg q]; rfl
  rw [en]
  unfold m_X3_find m_X3_find_21
  rw [h5]
  by_cases c1 : y < 0
  · exact Or.inl ⟨by rw [if_pos ((ji_ltl (c := 0) (b := 0) hx rfl (by decide)).mpr c1)], by rw [if_neg (by omega)]⟩
  · rw [if_neg (fun q => c1 ((ji_ltl (c := 0) (b := 0) hx rfl (by decide)).mp q))]
    by_cases c2 : (m : Int) ≤ y
    · exact Or.inl ⟨by rw [if_pos ((ji_le ⟨by omega, by omega⟩ hx).mpr c2)], by rw [if_neg (by omega)]⟩
    · obtain ⟨i, rfl⟩ : ∃ i : Nat, y = i := ⟨y.toNat, by omega⟩
      refine Or.inr ⟨i, by omega, rfl, ?_, by rw [if_pos (by omega)]⟩
      rw [if_neg (fun q => c2 ((ji_le ⟨by omega, by omega⟩ hx).mp q)), if_pos ((ji_ltl (c := 60) (b := 60) hx rfl (by decide)).mpr (by omega)), if_neg (by rw [ji_oob hx]; omega), ji_nat hx]
      rfl
theorem kcV {i : Nat} (hi : i < 63) : kc (6 + 2 * i) = 2 := kc_V hi
/-! copies -/
theorem cs_copy {S : St} {r0 r1 : Nat} (h0 : kc r0 = 2) (h1 : kc r1 = 2) (hne : r0 ≠ r1) : ∃ S1, m_X2_copy S r0 r1 = some S1 ∧ (∀ j, j = 1 ∨ j = 2 ∨ j = 3 ∨ j = 5 ∨ j = 6 ∨ j = 7 → S1.1 r0 j = S.1 r1 j) ∧ S1.2 r0 4 = S.2 r1 4 ∧ (∀ j, j < 8 → S1.1 (r0 + 1) j = S.1 (r1 + 1) j) ∧ ∀ q, q ≠ r0 → q ≠ r0 + 1 → S1.1 q = S.1 q ∧ S1.2 q = S.2 q := by
  have k0 := kc_poly h0
  have k1 := kc_poly h1
  have n1 : r1 ≠ r0 + 1 := fun q => by rw [q, k0] at h1; cases h1
  have n2 : r1 + 1 ≠ r0 := fun q => by rw [q, h0] at k1; cases k1
  unfold m_X2_copy
  obtain ⟨S1, e1, a1, a2, a3, a4, a5, a6, a7⟩ := cs_set (S := S) h0 (S.1 r1 1) (S.1 r1 2) (S.1 r1 3) (S.2 r1 4)
  have b1 := (a7.1 r1 (Ne.symm hne)).1
  have b2 := (a7.1 (r1 + 1) n2).1
  have b3 := (a7.1 (r0 + 1) (by omega)).1
  rw [if_pos h0, if_pos h1, e1, ho_s]
  refine ⟨_, rfl, ?_, ?_, ?_, ?_⟩
  · intro j hj
    simp only [st_R, st_I, b1]
    rw [if_neg (by omega)]
    rcases hj with rfl | rfl | rfl | rfl | rfl | rfl <;> simp [a1, a2, a3, hne, Ne.symm hne]
  · exact a4
  · intro j hj
    simp only [st_R, st_I, va_cpy]
    rw [if_pos trivial, if_pos (by omega)]
    simp [n2, b2]
  · intro q hq hq1
    constructor
    · funext j
      simp only [st_R, st_I]
      rw [if_neg hq1]
      simp [hq, (a7.1 q hq).1]
    · exact (a7.1 q hq).2
theorem ms_copy {S : St} {c d : Nat} (hc : c < 64) (hd : d < 64) (hne : c ≠ d) : ∃ S1, m_X4_copy S (ji c) (ji d) = some S1 ∧ S1.1 2 d = S.1 2 c ∧ S1.1 3 d = S.1 3 c ∧ S1.1 4 d = S.1 4 c ∧ S1.2 5 d = S.2 5 c ∧ S1.2 6 d = S.2 6 c ∧ S1.2 7 d = S.2 7 c ∧ frm S S1 d := by
  unfold m_X4_copy
  simp only [if_neg (oobc hc), if_neg (oobc hd), natc hc, natc hd]
  obtain ⟨S1, e1, a1, a2, a3, a4, a5, a6, a7⟩ := ms_lay (S := S) hd (S.1 2 c) (S.1 3 c) (S.1 4 c) (S.2 5 c)
  rw [e1, ho_s]
  obtain ⟨p1, p2, p3, p4, p5⟩ := ms_parts (S := S1) (c := d) (S1.2 6 c) ((st_L S1 6 d (S1.2 6 c)).2 7 c)
  have b6 := (a7 6 c (by omega)).2
  have b7 := (a7 7 c (by omega)).2
  refine ⟨_, rfl, by rw [p3]; exact a1, by rw [p3]; exact a2, by rw [p3]; exact a3, by rw [p4]; exact a4, by rw [p1]; exact b6, ?_, a7.tr p5⟩
  rw [p2]
  simp only [st_L]
  rw [if_neg (by omega), b7]
/-- keeping what is made -/
theorem kp_full (R : RelP p K m z SC SM) (hm : m = 60) {r : Nat} (hr : kc r = 2) : m_X3_keep SC r = some (-6, SC) := by
  obtain ⟨h1, h2, h3, h4, h5, h6, -⟩ := R
  unfold m_X3_keep
  rw [if_pos hr, h5, hm, if_neg (by decide)]
theorem kp_beyond (R : RelP p K m z SC SM) (hm : m < 60) {r : Nat} (hr : kc r = 2) {v : Int} (hv : SC.1 r 2 = ji v) (rv : ri v) (hb : v < -60 ∨ 60 < v) : m_X3_keep SC r = some (-7, SC) := by
  obtain ⟨h1, h2, h3, h4, h5, h6, -⟩ := R
  unfold m_X3_keep
  rw [if_pos hr, h5, if_pos ((ji_ltl (c := 60) (b := 60) ⟨by omega, by omega⟩ rfl (by decide)).mpr (by omega)), cs_beyond hr hv rv, ho_s, if_pos hb, if_neg (by decide)]
theorem kp_both (R : RelP p K m z SC SM) (hm : m < 60) {r c : Nat} (hr : kc r = 2) (hr2 : 126 ≤ r) (hc : c < 64) (hcm : c ≠ m) {k v u a b : Int} {n : Nat} (B : bth p K SC SM r c k v n u a b) (bv : -60 ≤ v ∧ v ≤ 60) (hroot : k = 2 → rootd p SC SM r m) : ∃ SC1 SM1, m_X3_keep SC r = some (ji m, SC1) ∧ m_X4_keep SM (ji c) = some (ji m, SM1) ∧ RelP p K (m + 1) 1 SC1 SM1 := by
  obtain ⟨h1, h2, h3, h4, h5, h6, h7, h8, h9, h10, ⟨cc, h11, h12⟩, h13⟩ := R
  obtain ⟨b1, b2, b3⟩ := B
  have hrm : kc (6 + 2 * m) = 2 := kcV (by omega)
  obtain ⟨S5, e1, a1, a2, a3, a4⟩ := cs_copy (S := SC) hrm hr (by omega)
  obtain ⟨T5, f1, g1, g2, g3, g4, g5, g6, g7⟩ := ms_copy (S := SM) hc (show m < 64 by omega) hcm
  have s0 := (a4 0 (by omega) (by omega)).1
  have t0 : ∀ j, T5.1 0 j = SM.1 0 j := fun j => (g7 0 j (by omega)).1
  unfold m_X3_keep m_X4_keep
  rw [if_pos hr, h5, if_pos ((ji_ltl (c := 60) (b := 60) ⟨by omega, by omega⟩ rfl (by decide)).mpr (by omega)), cs_beyond hr b1.2.1 ⟨by omega, by omega⟩, ho_s, if_neg (show ¬ (v < -60 ∨ 60 < v) by omega), if_pos rfl, if_neg (by rw [ji_oob ⟨by omega, by omega⟩]; omega), ji_nat ⟨by omega, by omega⟩, show ((m : Int)).toNat = m by omega, e1, ho_s, h6, f1, ho_s, s0, t0, h5, h6, show (1 : Int32) = ji 1 from rfl, ji_add]
  refine ⟨st_I (st_I S5 0 7 (ji ((m : Int) + 1))) 0 8 (ji 1), st_I (st_I T5 0 3 (ji ((m : Int) + 1))) 0 4 (ji 1), ?_, ?_, ?_⟩
  · have e : (st_I (st_I S5 0 7 (ji ((m : Int) + 1))) 0 8 (ji 1)).1 0 7 = ji ((m : Int) + 1) := by simp [st_I]
    rw [e, ji_sub, show (m : Int) + 1 - 1 = m by omega]
  · have e : (st_I (st_I T5 0 3 (ji ((m : Int) + 1))) 0 4 (ji 1)).1 0 3 = ji ((m : Int) + 1) := by simp [st_I]
    rw [e, ji_sub, show (m : Int) + 1 - 1 = m by omega]
  · have CC : ∀ q, q ≠ 0 → (st_I (st_I S5 0 7 (ji ((m : Int) + 1))) 0 8 (ji 1)).1 q = S5.1 q := by
      intro q hq; funext j; simp [st_I, hq]
    have MM : ∀ q j, q ≠ 0 → (st_I (st_I T5 0 3 (ji ((m : Int) + 1))) 0 4 (ji 1)).1 q j = T5.1 q j := by
      intro q j hq; simp [st_I, hq]
    refine ⟨h1, ⟨?_, ?_, ?_⟩, ⟨?_, ?_, ?_⟩, by omega, ?_, ?_, Or.inr rfl, ?_, ?_, fun _ => by omega, ⟨cc, ?_, ?_⟩, fun i hi => ?_⟩
    · rw [CC 1 (by omega), (a4 1 (by omega) (by omega)).1]; exact h2.1
    · rw [CC 1 (by omega), (a4 1 (by omega) (by omega)).1]; exact h2.2.1
    · intro j hj; exact (congrFun (a4 2 (by omega) (by omega)).2 j).trans (h2.2.2 j hj)
    · simp [st_I]; rw [t0]; exact h3.1
    · simp [st_I]; rw [t0]; exact h3.2.1
    · intro j hj; exact ((g7 1 j (by omega)).2).trans (h3.2.2 j hj)
    · simp [st_I]
    · simp [st_I]
    · simp [st_I]
    · simp [st_I]
    · rw [CC 5 (by omega), (a4 5 (by omega) (by omega)).1]; exact h11
    · intro j hj; rw [MM 10 j (by omega), (g7 10 j (by omega)).1]; exact h12 j hj
    · by_cases q : i = m
      · subst q
        refine ⟨k, v, n, u, a, b, ⟨⟨?_, ?_, ?_, ?_, ?_⟩, ⟨?_, ?_, ?_, ?_, ?_⟩, b3⟩, bv.1, bv.2, fun q => ?_⟩
        · rw [CC _ (by omega), a1 1 (by omega)]; exact b1.1
        · rw [CC _ (by omega), a1 2 (by omega)]; exact b1.2.1
        · rw [CC _ (by omega), a1 3 (by omega)]; exact b1.2.2.1
        · exact a2.trans b1.2.2.2.1
        · intro q; rw [CC _ (by omega), a1 5 (by omega), a1 6 (by omega)]; exact b1.2.2.2.2 q
        · rw [MM _ _ (by omega), g1]; exact b2.1
        · rw [MM _ _ (by omega), g2]; exact b2.2.1
        · rw [MM _ _ (by omega), g3]; exact b2.2.2.1
        · exact g4.trans b2.2.2.2.1
        · intro q; exact ⟨g5.trans (b2.2.2.2.2 q).1, g6.trans (b2.2.2.2.2 q).2⟩
        · obtain ⟨f, c2, r1, r2, r3, r4, r5, r6, r7⟩ := hroot q
          refine ⟨f, c2, ?_, ?_, r3, r4, ?_, ?_, r7⟩
          · rw [CC _ (by omega), a1 7 (by omega)]; exact r1
          · rw [MM _ _ (by omega), (g7 8 i (by omega)).1]; exact r2
          · intro j hj; rw [CC _ (by omega), a3 j hj]; exact r5 j hj
          · intro j hj; show (st_I (st_I T5 0 3 (ji ((i : Int) + 1))) 0 4 (ji 1)).1 9 (8 * i + j) = ji (c2 j) ∧ _; rw [MM _ _ (by omega), (g7 9 _ (by omega)).1]; exact r6 j hj
      · obtain ⟨k2, v2, n2, u2, x2, y2, d1, d2, d3, d4⟩ := h13 i (by omega)
        refine ⟨k2, v2, n2, u2, x2, y2, d1.to ?_ ?_ ?_, d2, d3, fun q => (d4 q).to ?_ ?_ ?_ ?_⟩
        · rw [CC _ (by omega)]; exact (a4 _ (by omega) (by omega)).1
        · exact (a4 _ (by omega) (by omega)).2
        · intro q _ _; exact ⟨by rw [MM _ _ (by omega)]; exact (g7 q i (by omega)).1, (g7 q i (by omega)).2⟩
        · rw [CC _ (by omega)]; exact (a4 _ (by omega) (by omega)).1
        · rw [CC _ (by omega)]; exact (a4 _ (by omega) (by omega)).1
        · rw [MM _ _ (by omega)]; exact (g7 8 i (by omega)).1
        · intro j _; rw [MM _ _ (by omega)]; exact (g7 9 _ (by omega)).1
end
