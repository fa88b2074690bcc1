/-! what is made of two numbers: both make it alike -/
abbrev ngt (k : Int) (n : Nat) : Prop := k ≠ 1 ∧ n = 0
abbrev zro (k a : Int) : Prop := k = 1 ∧ a = 0
section
variable {S : St} {p : Int} {K : Nat} {r c : Nat} {k v u a b : Int} {n : Nat}
theorem vok_r (h : pk p K) (hv : vok p K k v n u a b) : ri k ∧ ri v ∧ ri (n : Int) ∧ rl u ∧ n ≤ 59 ∧ (k = 1 → ri a ∧ ri b) := by
  have hK := pk_K h
  obtain ⟨h1, h2, h3, h4, h5, h6, h7, h8, h9⟩ := hv
  have q5 := pw_K h h5
  refine ⟨⟨by omega, by omega⟩, ⟨by omega, by omega⟩, ⟨by omega, by omega⟩, ⟨by omega, by omega⟩, by omega, fun q => ?_⟩
  obtain ⟨g1, g2, g3, g4, -⟩ := h8 q
  exact ⟨⟨by omega, by omega⟩, ⟨by omega, by omega⟩⟩
theorem cs_nought (h : pk p K) (hr : kc r = 2) (hc : vc S r k v n u a b) (hv : vok p K k v n u a b) : m_X2_isNought S r = some (if ngt k n then 1 else 0) := by
  obtain ⟨r1, r2, r3, r4, r5, r6⟩ := vok_r h hv
  unfold m_X2_isNought
  rw [if_pos hr, hc.1, hc.2.2.1]
  by_cases q : k = 1
  · rw [if_pos (by rw [q]; rfl), if_neg (fun z => z.1 q)]
  · rw [if_neg (fun z => q ((ji_eql (c := 1) (b := 1) r1 rfl (by decide)).mp z))]
    by_cases q2 : n = 0
    · rw [if_pos (by rw [q2]; rfl), if_pos ⟨q, q2⟩]
    · rw [if_neg (ji_ne0 r3 (by omega)), if_neg (fun z => q2 z.2)]
theorem cs_zero (h : pk p K) (hr : kc r = 2) (hc : vc S r k v n u a b) (hv : vok p K k v n u a b) : m_X2_isZero S r = some (if zro k a then 1 else 0) := by
  obtain ⟨r1, r2, r3, r4, r5, r6⟩ := vok_r h hv
  unfold m_X2_isZero
  rw [if_pos hr, hc.1]
  by_cases q : k = 1
  · rw [if_pos (by rw [q]; rfl), (hc.2.2.2.2 q).1]
    by_cases q2 : a = 0
    · rw [if_pos (by rw [q2]; rfl), if_pos ⟨q, q2⟩]
    · rw [if_neg (ji_ne0 (r6 q).1 (by omega)), if_neg (fun z => q2 z.2)]
  · rw [if_neg (fun z => q ((ji_eql (c := 1) (b := 1) r1 rfl (by decide)).mp z)), if_neg (fun z => q z.1)]
theorem cs_beyond (hr : kc r = 2) (h2 : S.1 r 2 = ji v) (r2 : ri v) : m_X2_isBeyond S r = some (if v < -60 ∨ 60 < v then 1 else 0) := by
  unfold m_X2_isBeyond m_X2_isBeyond_18
  rw [if_pos hr, h2]
  by_cases q : v < -60
  · rw [if_pos ((ji_ltl (c := -60) (b := -60) r2 rfl (by decide)).mpr q), if_pos (Or.inl q)]
  · rw [if_neg (fun z => q ((ji_ltl (c := -60) (b := -60) r2 rfl (by decide)).mp z))]
    by_cases q2 : v ≤ 60
    · rw [if_pos ((ji_lel (c := 60) (b := 60) r2 rfl (by decide)).mpr q2), if_neg (by omega)]
    · rw [if_neg (fun z => q2 ((ji_lel (c := 60) (b := 60) r2 rfl (by decide)).mp z)), if_pos (by omega)]
theorem cs_end (h : pk p K) (hr : kc r = 2) (hc : vc S r k v n u a b) (hv : vok p K k v n u a b) : m_X2_endOfSure S r = some (ji (if k = 1 then 1000 else v + n)) := by
  obtain ⟨r1, r2, r3, r4, r5, r6⟩ := vok_r h hv
  unfold m_X2_endOfSure
  rw [if_pos hr, hc.1, hc.2.1, hc.2.2.1]
  by_cases q : k = 1
  · rw [if_pos (by rw [q]; rfl), if_pos q]; rfl
  · rw [if_neg (fun z => q ((ji_eql (c := 1) (b := 1) r1 rfl (by decide)).mp z)), if_neg q, ji_add]
theorem cs_low (h : pk p K) (hr : kc r = 2) (hc : vc S r k v n u a b) (hv : vok p K k v n u a b) : m_X2_lowestPlace S r = some (ji (if ngt k n ∨ zro k a then 1000 else v)) := by
  unfold m_X2_lowestPlace m_X2_lowestPlace_14
  rw [if_pos hr, cs_nought h hr hc hv, ho_s]
  by_cases q : ngt k n
  · rw [if_pos q, if_neg (by decide), if_pos (Or.inl q)]; rfl
  · rw [if_neg q, if_pos rfl, cs_zero h hr hc hv, ho_s]
    by_cases q2 : zro k a
    · rw [if_pos q2, if_neg (by decide), if_pos (Or.inr q2)]; rfl
    · rw [if_neg q2, if_pos rfl, if_neg (fun z => z.elim q q2), hc.2.1]
theorem ms_nought (h : pk p K) (hc64 : c < 64) (hc : vm S c k v n u a b) (hv : vok p K k v n u a b) : m_X4_isNought S (ji c) = some (if ngt k n then 1 else 0) := by
  obtain ⟨r1, r2, r3, r4, r5, r6⟩ := vok_r h hv
  unfold m_X4_isNought
  simp only [if_neg (oobc hc64), natc hc64]
  rw [hc.1, hc.2.2.1]
  by_cases q : k = 1
  · rw [if_pos (by rw [q]; rfl), if_neg (fun z => z.1 q)]
  · rw [if_neg (fun z => q ((ji_eql (c := 1) (b := 1) r1 rfl (by decide)).mp z))]
    by_cases q2 : n = 0
    · rw [if_pos (by rw [q2]; rfl), if_pos ⟨q, q2⟩]
    · rw [if_neg (ji_ne0 r3 (by omega)), if_neg (fun z => q2 z.2)]
theorem ms_zero (h : pk p K) (hc64 : c < 64) (hc : vm S c k v n u a b) (hv : vok p K k v n u a b) : m_X4_isZero S (ji c) = some (if zro k a then 1 else 0) := by
  obtain ⟨r1, r2, r3, r4, r5, r6⟩ := vok_r h hv
  unfold m_X4_isZero
  simp only [if_neg (oobc hc64), natc hc64]
  rw [hc.1]
  by_cases q : k = 1
  · have ra := (r6 q).1
    rw [if_pos (by rw [q]; rfl), (hc.2.2.2.2 q).1]
    by_cases q2 : a = 0
    · rw [if_pos (by rw [q2]; rfl), if_pos ⟨q, q2⟩]
    · rw [if_neg (jl_ne0 ⟨by omega, by omega⟩ (by omega)), if_neg (fun z => q2 z.2)]
  · rw [if_neg (fun z => q ((ji_eql (c := 1) (b := 1) r1 rfl (by decide)).mp z)), if_neg (fun z => q z.1)]
theorem ms_beyond (hc64 : c < 64) (h2 : S.1 3 c = ji v) (r2 : ri v) : m_X4_isBeyond S (ji c) = some (if v < -60 ∨ 60 < v then 1 else 0) := by
  unfold m_X4_isBeyond
  rw [if_neg (oobc hc64), natc hc64, h2, ji_l r2, show (-60 : Int64) = jl (-60) from rfl, show (60 : Int64) = jl 60 from rfl, mf_in ⟨by omega, by omega⟩ (by decide) (by decide), ho_s]
  by_cases q : -60 ≤ v ∧ v ≤ 60
  · rw [if_pos q, if_neg (by decide), if_neg (by omega)]
  · rw [if_neg q, if_pos rfl, if_pos (by omega)]
theorem ms_known (h : pk p K) (hc64 : c < 64) (hc : vm S c k v n u a b) (hv : vok p K k v n u a b) : m_X4_knownTo S (ji c) = some (ji (if k = 1 then 100000 else v + n)) := by
  obtain ⟨r1, r2, r3, r4, r5, r6⟩ := vok_r h hv
  unfold m_X4_knownTo
  simp only [if_neg (oobc hc64), natc hc64]
  rw [hc.1, hc.2.1, hc.2.2.1]
  by_cases q : k = 1
  · rw [if_pos (by rw [q]; rfl), if_pos q]; rfl
  · rw [if_neg (fun z => q ((ji_eql (c := 1) (b := 1) r1 rfl (by decide)).mp z)), if_neg q, ji_add]
end
/-! figures laid from a place on -/
section
variable {S : St} {p : Int} {K : Nat}
theorem cs_figs0 {v : Int} {n : Nat} {r : Nat} (hr : kc r = 2) : ∃ S1, m_X0_setFigures S (ji v) (jl 0) (ji n) r = some S1 ∧ vc S1 r 0 (v + n) 0 0 0 1 ∧ frc S S1 r := by
  unfold m_X0_setFigures
  obtain ⟨S1, e1, a1, a2, a3, a4, a5, a6, a7⟩ := cs_set (S := S) hr 0 (ji v + ji n) 0 0
  rw [if_pos hr, if_pos jl00, e1]
  exact ⟨S1, rfl, ⟨a1, by rw [a2, ji_add], a3, a4, fun q => by omega⟩, a7⟩
theorem cs_figs (h : pk p K) (hS : fc S p K) {v w u : Int} {n t r : Nat} (hr : kc r = 2) (hw : rl w) (hw2 : 0 < w) (e : w = p ^ t * u) (hu : ¬ p ∣ u) (htn : t ≤ n) : ∃ S1, m_X0_setFigures S (ji v) (jl w) (ji n) r = some S1 ∧ vc S1 r 0 (v + t) (n - t) u 0 1 ∧ frc S S1 r := by
  unfold m_X0_setFigures
  obtain ⟨s1, s2⟩ := cf_strip h hS hw (by omega) e hu
  obtain ⟨S1, e1, a1, a2, a3, a4, a5, a6, a7⟩ := cs_set (S := S) hr 0 (ji v + ji t) (ji n - ji t) (jl u)
  rw [if_pos hr, if_neg (jl_ne0 hw (by omega)), s2, ho_s, s1, ho_s, e1]
  refine ⟨S1, rfl, ⟨a1, by rw [a2, ji_add], by rw [a3, ji_sub]; congr 1; omega, a4, fun q => by omega⟩, a7⟩
theorem ms_figs0 {v k : Int} {n c : Nat} (hc : c < 64) (hk : k ≠ 1) : ∃ S1, m_X4_settle S (ji c) (ji k) (ji v) (ji n) (jl 0) = some S1 ∧ vm S1 c k (v + n) 0 0 0 1 ∧ frm S S1 c := by
  unfold m_X4_settle
  obtain ⟨S1, e1, a1, a2, a3, a4, a5, a6, a7⟩ := ms_lay (S := S) hc (ji k) (ji v + ji n) 0 0
  rw [if_pos jl00, e1]
  exact ⟨S1, rfl, ⟨a1, by rw [a2, ji_add], a3, a4, fun q => absurd q hk⟩, a7⟩
theorem ms_figs (h : pk p K) (hS : fm S p K) {v w u k : Int} {n t c : Nat} (hc : c < 64) (hk : k ≠ 1) (hw : rl w) (hw2 : 0 < w) (e : w = p ^ t * u) (hu : ¬ p ∣ u) (htn : t ≤ n) : ∃ S1, m_X4_settle S (ji c) (ji k) (ji v) (ji n) (jl w) = some S1 ∧ vm S1 c k (v + t) (n - t) u 0 1 ∧ frm S S1 c := by
  unfold m_X4_settle
  obtain ⟨s1, s2⟩ := mf_strip h hS hw (by omega) e hu
  obtain ⟨S1, e1, a1, a2, a3, a4, a5, a6, a7⟩ := ms_lay (S := S) hc (ji k) (ji v + ji t) (ji n - ji t) (jl u)
  rw [if_neg (jl_ne0 hw (by omega)), s2, ho_s, s1, ho_s, e1]
  exact ⟨S1, rfl, ⟨a1, by rw [a2, ji_add], by rw [a3, ji_sub]; congr 1; omega, a4, fun q => absurd q hk⟩, a7⟩
theorem fg_lt (hp : 2 ≤ p) {w u : Int} {n t : Nat} (hw : 0 < w) (hw2 : w < p ^ n) (e : w = p ^ t * u) : t < n ∧ 0 < u ∧ u < p ^ (n - t) := by
  have h1 := pw_pos hp t
  have hu : 0 < u := by
    by_cases c : 0 < u
    · exact c
    · have : p ^ t * u ≤ p ^ t * 0 := Int.mul_le_mul_of_nonneg_left (by omega) (by omega)
      omega
  have ht : t < n := by
    rcases Nat.lt_or_ge t n with q | q
    · exact q
    · have h2 := pw_le hp q
      have : p ^ t * 1 ≤ p ^ t * u := Int.mul_le_mul_of_nonneg_left (by omega) (by omega)
      omega
  refine ⟨ht, hu, ?_⟩
  have e2 : p ^ n = p ^ t * p ^ (n - t) := by rw [← pw_add]; congr 1; omega
  rw [e, e2] at hw2
  exact Int.lt_of_mul_lt_mul_left hw2 (by omega)
/-- both lay figures alike: the NUMBER of n figures w from a lift v on -/
theorem fg_both {SC SM : St} (h : pk p K) (hc : fc SC p K) (hm : fm SM p K) {r c : Nat} (hr : kc r = 2) (hc64 : c < 64) {v w k : Int} {n : Nat} (hn : n ≤ K) (hw : 0 ≤ w) (hw2 : w < p ^ n) (hv : -240 ≤ v ∧ v ≤ 240) (hk : k ≠ 1) (hk0 : 0 ≤ k) (hk3 : k ≤ 3) : ∃ SC1 SM1 v1 n1 u1, m_X0_setFigures SC (ji v) (jl w) (ji n) r = some SC1 ∧ m_X4_settle SM (ji c) (ji k) (ji v) (ji n) (jl w) = some SM1 ∧ vc SC1 r 0 v1 n1 u1 0 1 ∧ vm SM1 c k v1 n1 u1 0 1 ∧ vok p K k v1 n1 u1 0 1 ∧ frc SC SC1 r ∧ frm SM SM1 c ∧ v ≤ v1 ∧ v1 ≤ v + n := by
  have hp := pk_p h
  have hK := pk_K h
  have q5 := pw_K h hn
  by_cases c0 : w = 0
  · subst c0
    obtain ⟨S1, e1, a1, a2⟩ := cs_figs0 (S := SC) (v := v) (n := n) hr
    obtain ⟨S2, e2, b1, b2⟩ := ms_figs0 (S := SM) (v := v) (n := n) hc64 hk
    exact ⟨S1, S2, _, _, _, e1, e2, a1, b1, ⟨hk0, hk3, by omega, by omega, Nat.zero_le _, by omega, by rw [Int.pow_zero]; omega, fun q => absurd q hk, fun _ q => absurd rfl q⟩, a2, b2, by omega, by omega⟩
  · obtain ⟨t, u, e, hu⟩ := pv_of hp.1 c0
    obtain ⟨l1, l2, l3⟩ := fg_lt hp.1 (show 0 < w by omega) hw2 e
    obtain ⟨S1, e1, a1, a2⟩ := cs_figs h hc (v := v) hr ⟨by omega, by omega⟩ (show 0 < w by omega) e hu (show t ≤ n by omega)
    obtain ⟨S2, e2, b1, b2⟩ := ms_figs h hm (v := v) hc64 hk ⟨by omega, by omega⟩ (show 0 < w by omega) e hu (show t ≤ n by omega)
    exact ⟨S1, S2, _, _, _, e1, e2, a1, b1, ⟨hk0, hk3, by omega, by omega, by omega, by omega, l3, fun q => absurd q hk, fun _ _ => hu⟩, a2, b2, by omega, by omega⟩
end
