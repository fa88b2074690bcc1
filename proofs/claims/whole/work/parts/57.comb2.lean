/-! sums, products, quotients: both alike -/
/-- the figures of a number from a place st on, n of them -/
def ffr (p : Int) (k v : Int) (nx : Nat) (u a : Int) (st : Int) (n : Nat) : Int := if ngt k nx ∨ zro k a then 0 else if (n : Int) ≤ v - st then 0 else (u * p ^ (v - st).toNat) % p ^ n
theorem ffr_lt {p : Int} {K : Nat} (h : pk p K) {k v u a st : Int} {nx n : Nat} (hn : n ≤ K) : 0 ≤ ffr p k v nx u a st n ∧ ffr p k v nx u a st n < p ^ n := by
  have q5 := pw_K h hn
  unfold ffr
  split
  · omega
  · split
    · omega
    · exact em_lt q5.1
theorem mod_pw {p : Int} (hp : 2 ≤ p) {n t : Nat} (ht : t ≤ n) (u : Int) : u % p ^ (n - t) * p ^ t = (u * p ^ t) % p ^ n := by
  have e : p ^ n = p ^ t * p ^ (n - t) := by rw [← pw_add]; congr 1; omega
  rw [e, Int.mul_comm u, Int.mul_emod_mul_of_pos _ _ (pw_pos hp t), Int.mul_comm]
section
variable {S : St} {p : Int} {K : Nat} {r c : Nat} {k v u a b : Int} {nx : Nat}
theorem cs_from (h : pk p K) (hS : fc S p K) (hr : kc r = 2) (hc : vc S r k v nx u a b) (hv : vok p K k v nx u a b) {st : Int} {n : Nat} (hn : n ≤ K) (hst : -300 ≤ st ∧ st ≤ 300) (hle : ¬ (ngt k nx ∨ zro k a) → st ≤ v) : m_X0_figuresFrom S r (ji st) (ji n) = some (jl (ffr p k v nx u a st n)) := by
  have hp := pk_p h
  have hK := pk_K h
  obtain ⟨r1, r2, r3, r4, r5, r6⟩ := vok_r h hv
  obtain ⟨v1, v2, v3, v4, v5, v6, v7, v8, v9⟩ := hv
  unfold m_X0_figuresFrom
  rw [if_pos hr, cs_low h hr hc ⟨v1, v2, v3, v4, v5, v6, v7, v8, v9⟩, ho_s, ji_sub]
  unfold ffr
  by_cases q : ngt k nx ∨ zro k a
  · rw [if_pos q, if_pos q, if_neg (fun z => by have := (ji_lt (a := 1000 - st) (b := n) ⟨by omega, by omega⟩ ⟨by omega, by omega⟩).mp z; omega)]
    rfl
  · have h1 := hle q
    rw [if_neg q, if_neg q]
    by_cases q2 : (n : Int) ≤ v - st
    · rw [if_pos q2, if_neg (fun z => by have := (ji_lt (a := v - st) (b := n) ⟨by omega, by omega⟩ ⟨by omega, by omega⟩).mp z; omega)]
      rfl
    · obtain ⟨t, ht⟩ : ∃ t : Nat, v - st = t := ⟨(v - st).toNat, by omega⟩
      have b1 := pw_K h (show n - t ≤ K by omega)
      rw [if_neg q2, ht, if_pos ((ji_lt ⟨by omega, by omega⟩ ⟨by omega, by omega⟩).mpr (by omega)), ji_sub, show (n : Int) - t = ((n - t : Nat) : Int) by omega, cf_pw h hS (show n - t ≤ K by omega), ho_s, if_neg (jl_ne0 ⟨by omega, by omega⟩ (by omega)), cf_pw h hS (show t ≤ K by omega), ho_s, hc.2.2.2.1, jl_mod r4 v6 ⟨by omega, by omega⟩, jl_mul, mod_pw hp.1 (by omega), show ((t : Int)).toNat = t by omega]
theorem ms_from (h : pk p K) (hS : fm S p K) (hc64 : c < 64) (hc : vm S c k v nx u a b) (hv : vok p K k v nx u a b) {st : Int} {n : Nat} (hn : n ≤ K) (hst : -300 ≤ st ∧ st ≤ 300) (hle : ¬ (ngt k nx ∨ zro k a) → st ≤ v) : m_X4_from S (ji c) (ji st) (ji n) = some (jl (ffr p k v nx u a st n)) := by
  have hp := pk_p h
  have hK := pk_K h
  obtain ⟨r1, r2, r3, r4, r5, r6⟩ := vok_r h hv
  unfold m_X4_from
  rw [ms_nought h hc64 hc hv, ho_s]
  unfold ffr
  by_cases q : ngt k nx
  · rw [if_pos q, if_neg (by decide), if_pos (Or.inl q)]; rfl
  · rw [if_neg q, if_pos rfl, ms_zero h hc64 hc hv, ho_s]
    by_cases q1 : zro k a
    · rw [if_pos q1, if_neg (by decide), if_pos (Or.inr q1)]; rfl
    · have h1 := hle (fun z => z.elim q q1)
      obtain ⟨v1, v2, v3, v4, v5, v6, v7, v8, v9⟩ := hv
      have hz : ¬ (ngt k nx ∨ zro k a) := fun z => z.elim q q1
      rw [if_neg q1, if_pos rfl, if_neg hz]
      simp only [if_neg (oobc hc64), natc hc64, if_neg (mf_oob h hn)]
      rw [hc.2.1, ji_sub, hc.2.2.2.1, mf_pw h hS hn]
      by_cases q2 : (n : Int) ≤ v - st
      · rw [if_pos q2, if_neg (fun z => by have := (ji_lt (a := v - st) (b := n) ⟨by omega, by omega⟩ ⟨by omega, by omega⟩).mp z; omega)]
        rfl
      · obtain ⟨t, ht⟩ : ∃ t : Nat, v - st = t := ⟨(v - st).toNat, by omega⟩
        have b1 := pw_K h hn
        have b2 := pw_K h (show t ≤ K by omega)
        have m1 := em_lt (a := u) b1.1
        have m2 := em_lt (a := p ^ t) b1.1
        rw [if_neg q2, ht, if_pos ((ji_lt ⟨by omega, by omega⟩ ⟨by omega, by omega⟩).mpr (by omega))]
        simp only [if_neg (mf_oob h (show t ≤ K by omega)), if_neg (jl_ne0 (b := p ^ n) ⟨by omega, by omega⟩ (by omega))]
        rw [mf_pw h hS (show t ≤ K by omega), jl_mod r4 v6 ⟨by omega, by omega⟩, jl_mod ⟨by omega, by omega⟩ (by omega) ⟨by omega, by omega⟩, mf_times b1.1 b1.2 m1.1 m1.2 m2.1 ⟨by omega, by omega⟩, ho_s, ← Int.mul_emod, show ((t : Int)).toNat = t by omega]
end
/-- a number that both hold -/
def bth (p : Int) (K : Nat) (SC SM : St) (r c : Nat) (k v : Int) (n : Nat) (u a b : Int) : Prop := vc SC r k v n u a b ∧ vm SM c k v n u a b ∧ vok p K k v n u a b
section
variable {SC SM : St} {p : Int} {K : Nat} {rx ry rt cx cy ct : Nat} {kx vx ux ax bx ky vy uy ay by_ : Int} {nx ny : Nat}
/-- the place from which on a sum is laid, if one of both has figures -/
theorem add_both (h : pk p K) (hc : fc SC p K) (hm : fm SM p K) (hrx : kc rx = 2) (hry : kc ry = 2) (hrt : kc rt = 2) (hcx : cx < 64) (hcy : cy < 64) (hct : ct < 64) (X : bth p K SC SM rx cx kx vx nx ux ax bx) (Y : bth p K SC SM ry cy ky vy ny uy ay by_) (hnr : kx ≠ 1 ∨ ky ≠ 1) (bvx : -60 ≤ vx ∧ vx ≤ 60) (bvy : -60 ≤ vy ∧ vy ≤ 60) (less : Bool) : ∃ SC1 SM1 k v n u a b, m_X0_add SC rx ry (if less then 1 else 0) rt = some SC1 ∧ m_X4_added SM (if less then 1 else 0) (ji cx) (ji cy) (ji ct) = some SM1 ∧ bth p K SC1 SM1 rt ct k v n u a b ∧ frc SC SC1 rt ∧ frm SM SM1 ct ∧ -200 ≤ v ∧ v ≤ 200 ∧ k ≤ 1 := by
  have hp := pk_p h
  have hK := pk_K h
  obtain ⟨x1, x2, x3⟩ := X
  obtain ⟨y1, y2, y3⟩ := Y
  obtain ⟨r1, r2, r3, r4, r5, r6⟩ := vok_r h x3
  obtain ⟨s1, s2, s3, s4, s5, s6⟩ := vok_r h y3
  obtain ⟨en, hen⟩ : ∃ en : Int, en = if (if ky = 1 then 1000 else vy + ny) < (if kx = 1 then 1000 else vx + nx) then (if ky = 1 then 1000 else vy + (ny : Int)) else (if kx = 1 then 1000 else vx + (nx : Int)) := ⟨_, rfl⟩
  obtain ⟨st, hst⟩ : ∃ st : Int, st = if (if ngt ky ny ∨ zro ky ay then 1000 else vy) < (if ngt kx nx ∨ zro kx ax then 1000 else vx) then (if ngt ky ny ∨ zro ky ay then 1000 else vy) else (if ngt kx nx ∨ zro kx ax then 1000 else vx) := ⟨_, rfl⟩
  have ben : -60 ≤ en ∧ en ≤ 119 := by
    rw [hen]; split <;> split <;> split <;> omega
  -- the class
  have EC : m_X0_add SC rx ry (if less then 1 else 0) rt = if st < en then (m_X0_figuresFrom SC ry (ji st) (ji (if (K : Int) < en - st then K else en - st))).bind (fun f6 => (m_X0_figuresFrom SC rx (ji st) (ji (if (K : Int) < en - st then K else en - st))).bind (fun f7 => m_X0_add_93 SC rt (ji st) (ji (if (K : Int) < en - st then K else en - st)) (if less then -f6 else f6) f7)) else (m_X2_set SC rt 0 (ji en) 0 0).bind (fun S9 => some S9) := by
    unfold m_X0_add
    have bl : ∀ (k v a : Int) (n : Nat), -60 ≤ v → v ≤ 60 → ri (if ngt k n ∨ zro k a then 1000 else v) := by
      intro k v a n _ _; split <;> exact ⟨by omega, by omega⟩
    have be : ∀ (k v : Int) (n : Nat), -60 ≤ v → v ≤ 60 → n ≤ 59 → ri (if k = 1 then 1000 else v + (n : Int)) := by
      intro k v n _ _ _; split <;> exact ⟨by omega, by omega⟩
    have bs : -60 ≤ st ∧ st ≤ 1000 := by rw [hst]; split <;> split <;> omega
    rw [if_pos hrx, if_pos hry, if_pos hrt, cs_end h hrx x1 x3, ho_s, cs_end h hry y1 y3, ho_s, cs_low h hrx x1 x3, ho_s, cs_low h hry y1 y3, ho_s, ji_min (bl ky vy ay ny bvy.1 bvy.2) (bl kx vx ax nx bvx.1 bvx.2), ji_min (be ky vy ny bvy.1 bvy.2 s5) (be kx vx nx bvx.1 bvx.2 r5), ← hst, ← hen, hc.2.1, ji_sub, ji_min ⟨by omega, by omega⟩ ⟨by omega, by omega⟩]
    by_cases q : st < en
    · rw [if_pos q, if_pos ((ji_lt ⟨by omega, by omega⟩ ⟨by omega, by omega⟩).mpr q)]
      cases less <;> rfl
    · rw [if_neg q, if_neg (fun z => q ((ji_lt ⟨by omega, by omega⟩ ⟨by omega, by omega⟩).mp z))]
  -- the reference
  have EM : ∃ y0 : Int, (y0 = st ∨ (y0 = en ∧ en ≤ st)) ∧ m_X4_added SM (if less then 1 else 0) (ji cx) (ji cy) (ji ct) = m_X4_added_124 SM (if less then 1 else 0) (ji cx) (ji cy) (ji ct) (ji en) (ji y0) := by
    have e26 : m_X4_added SM (if less then 1 else 0) (ji cx) (ji cy) (ji ct) = m_X4_added_26 SM (if less then 1 else 0) (ji cx) (ji cy) (ji ct) (ji en) := by
      have be : ∀ (k v : Int) (n : Nat), -60 ≤ v → v ≤ 60 → n ≤ 59 → ri (if k = 1 then 100000 else v + (n : Int)) := by
        intro k v n _ _ _; split <;> exact ⟨by omega, by omega⟩
      unfold m_X4_added
      rw [ms_known h hcx x2 x3, ho_s, ms_known h hcy y2 y3, ho_s]
      by_cases q : (if ky = 1 then 100000 else vy + (ny : Int)) ≤ (if kx = 1 then 100000 else vx + (nx : Int))
      · rw [if_pos ((ji_le (be ky vy ny bvy.1 bvy.2 s5) (be kx vx nx bvx.1 bvx.2 r5)).mpr q), ho_s]
        congr 2
        rw [hen]
        split at q <;> split at q <;> (simp only [*, if_true, if_false]; try (split <;> omega))
        all_goals omega
      · rw [if_neg (fun z => q ((ji_le (be ky vy ny bvy.1 bvy.2 s5) (be kx vx nx bvx.1 bvx.2 r5)).mp z)), ho_s]
        congr 2
        rw [hen]
        split at q <;> split at q <;> (simp only [*, if_true, if_false]; try (split <;> omega))
        all_goals omega
    rw [e26]
    have f1 : m_X4_added_26 SM (if less then 1 else 0) (ji cx) (ji cy) (ji ct) (ji en) = m_X4_added_49 SM (if less then 1 else 0) (ji cx) (ji cy) (ji ct) (ji en) (if ngt kx nx ∨ zro kx ax then 0 else 1) := by
      unfold m_X4_added_26 m_X4_added_48
      rw [ms_nought h hcx x2 x3, ho_s]
      by_cases q : ngt kx nx
      · rw [if_pos q, if_neg (by decide), if_pos (Or.inl q)]
      · rw [if_neg q, if_pos rfl, ms_zero h hcx x2 x3, ho_s]
        by_cases q2 : zro kx ax
        · rw [if_pos q2, if_neg (by decide), if_pos (Or.inr q2)]
        · have hz : ¬ (ngt kx nx ∨ zro kx ax) := fun z => z.elim q q2
          rw [if_neg q2, if_pos rfl, if_neg hz]
    have f2 : ∀ g : Int32, m_X4_added_49 SM (if less then 1 else 0) (ji cx) (ji cy) (ji ct) (ji en) g = m_X4_added_72 SM (if less then 1 else 0) (ji cx) (ji cy) (ji ct) (ji en) g (if ngt ky ny ∨ zro ky ay then 0 else 1) := by
      intro g
      unfold m_X4_added_49 m_X4_added_71
      rw [ms_nought h hcy y2 y3, ho_s]
      by_cases q : ngt ky ny
      · rw [if_pos q, if_neg (by decide), if_pos (Or.inl q)]
      · rw [if_neg q, if_pos rfl, ms_zero h hcy y2 y3, ho_s]
        by_cases q2 : zro ky ay
        · rw [if_pos q2, if_neg (by decide), if_pos (Or.inr q2)]
        · have hz : ¬ (ngt ky ny ∨ zro ky ay) := fun z => z.elim q q2
          rw [if_neg q2, if_pos rfl, if_neg hz]
    rw [f1, f2]
    unfold m_X4_added_72 m_X4_added_108 m_X4_added_99
    simp only [if_neg (oobc hcx), if_neg (oobc hcy), natc hcx, natc hcy]
    rw [x2.2.1, y2.2.1]
    by_cases hx : ngt kx nx ∨ zro kx ax
    · by_cases hy : ngt ky ny ∨ zro ky ay
      · refine ⟨en, Or.inr ⟨rfl, ?_⟩, ?_⟩
        · rw [hst, if_pos hx, if_pos hy]; omega
        · rw [if_pos hx, if_pos hy, if_pos rfl, if_pos rfl]
      · refine ⟨vy, Or.inl ?_, ?_⟩
        · rw [hst, if_pos hx, if_neg hy, if_pos (by omega)]
        · rw [if_pos hx, if_neg hy, if_pos rfl, if_neg (by decide)]
    · by_cases hy : ngt ky ny ∨ zro ky ay
      · refine ⟨vx, Or.inl ?_, ?_⟩
        · rw [hst, if_neg hx, if_pos hy, if_neg (by omega)]
        · rw [if_neg hx, if_pos hy, if_neg (by decide), if_pos rfl]
      · by_cases q : vy ≤ vx
        · refine ⟨vy, Or.inl ?_, ?_⟩
          · rw [hst, if_neg hx, if_neg hy]; split <;> omega
          · rw [if_neg hx, if_neg hy, if_neg (by decide), if_neg (by decide), if_pos ((ji_le s2 r2).mpr q), if_neg (by decide)]
        · refine ⟨vx, Or.inl ?_, ?_⟩
          · rw [hst, if_neg hx, if_neg hy]; split <;> omega
          · rw [if_neg hx, if_neg hy, if_neg (by decide), if_neg (by decide), if_neg (fun z => q ((ji_le s2 r2).mp z))]
  obtain ⟨y0, hy0, EM⟩ := EM
  rw [EC, EM]
  unfold m_X4_added_124
  rw [hm.2.1, ji_sub]
  have bs : -60 ≤ st ∧ st ≤ 1000 := by rw [hst]; split <;> split <;> omega
  by_cases q : st < en
  · have e0 : y0 = st := by omega
    subst e0
    obtain ⟨N, hN⟩ : ∃ N : Nat, (N : Int) = if (K : Int) < en - y0 then (K : Int) else en - y0 := ⟨(if (K : Int) < en - y0 then (K : Int) else en - y0).toNat, by split <;> omega⟩
    have hNK : N ≤ K := by split at hN <;> omega
    have b1 := pw_K h hNK
    have lx : ¬ (ngt kx nx ∨ zro kx ax) → y0 ≤ vx := by intro z; rw [hst, if_neg z]; split <;> omega
    have ly : ¬ (ngt ky ny ∨ zro ky ay) → y0 ≤ vy := by intro z; rw [hst, if_neg z]; split <;> omega
    rw [if_pos q, if_pos ((ji_lt ⟨by omega, by omega⟩ ⟨by omega, by omega⟩).mpr q), ← hN, cs_from h hc hry y1 y3 hNK ⟨by omega, by omega⟩ ly, ho_s, cs_from h hc hrx x1 x3 hNK ⟨by omega, by omega⟩ lx, ho_s]
    have e169 : (if ji K ≤ ji (en - y0) then m_X4_added_169 SM (if less then 1 else 0) (ji cx) (ji cy) (ji ct) (ji y0) (ji K) else m_X4_added_169 SM (if less then 1 else 0) (ji cx) (ji cy) (ji ct) (ji y0) (ji (en - y0))) = m_X4_added_169 SM (if less then 1 else 0) (ji cx) (ji cy) (ji ct) (ji y0) (ji N) := by
      by_cases z : (K : Int) ≤ en - y0
      · rw [if_pos ((ji_le ⟨by omega, by omega⟩ ⟨by omega, by omega⟩).mpr z)]
        congr 2
        rw [hN]; split <;> omega
      · rw [if_neg (fun w => z ((ji_le ⟨by omega, by omega⟩ ⟨by omega, by omega⟩).mp w))]
        congr 2
        rw [hN]; split <;> omega
    rw [e169]
    unfold m_X4_added_169 m_X4_added_226 m_X0_add_93
    rw [ms_from h hm hcx x2 x3 hNK ⟨by omega, by omega⟩ lx, ho_s, ms_from h hm hcy y2 y3 hNK ⟨by omega, by omega⟩ ly, ho_s]
    simp only [if_neg (mf_oob h hNK)]
    rw [mf_pw h hm hNK]
    have fx := ffr_lt h (k := kx) (v := vx) (u := ux) (a := ax) (st := y0) (nx := nx) hNK
    have fy := ffr_lt h (k := ky) (v := vy) (u := uy) (a := ay) (st := y0) (nx := ny) hNK
    generalize ffr p kx vx nx ux ax y0 N = FX at *
    generalize ffr p ky vy ny uy ay y0 N = FY at *
    cases less with
    | false =>
      simp only [Bool.false_eq_true, if_false]
      rw [jl_add, cf_reduce h hc ⟨by omega, by omega⟩ (by omega) hNK, ho_s, if_pos trivial, jl_sub, jl_add, mf_into ⟨by omega, by omega⟩ (by omega) ⟨by omega, by omega⟩ b1.1, ho_s]
      have ew : (FX - p ^ N + FY) % p ^ N = (FX + FY) % p ^ N := emod_of_dv ⟨-1, by omega⟩
      rw [ew]
      have w := em_lt (a := FX + FY) b1.1
      obtain ⟨SC1, SM1, v1, n1, u1, g1, g2, g3, g4, g5, g6, g7, g8, g9⟩ := fg_both h hc hm hrt hct (v := y0) (k := 0) hNK w.1 w.2 ⟨by omega, by omega⟩ (by omega) (by omega) (by omega)
      rw [g1, ho_s, show (0 : Int32) = ji 0 from rfl, g2, ho_s]
      exact ⟨SC1, SM1, 0, v1, n1, u1, 0, 1, rfl, rfl, ⟨g3, g4, g5⟩, g6, g7, by omega, by omega, by omega⟩
    | true =>
      simp only [if_true]
      rw [jl_neg, jl_add, cf_reduce h hc ⟨by omega, by omega⟩ (by omega) hNK, ho_s, if_neg (by decide), jl_sub, mf_into ⟨by omega, by omega⟩ (by omega) ⟨by omega, by omega⟩ b1.1, ho_s, show FX + -FY = FX - FY by omega]
      have w := em_lt (a := FX - FY) b1.1
      obtain ⟨SC1, SM1, v1, n1, u1, g1, g2, g3, g4, g5, g6, g7, g8, g9⟩ := fg_both h hc hm hrt hct (v := y0) (k := 0) hNK w.1 w.2 ⟨by omega, by omega⟩ (by omega) (by omega) (by omega)
      rw [g1, ho_s, show (0 : Int32) = ji 0 from rfl, g2, ho_s]
      exact ⟨SC1, SM1, 0, v1, n1, u1, 0, 1, rfl, rfl, ⟨g3, g4, g5⟩, g6, g7, by omega, by omega, by omega⟩
  · rw [if_neg q, if_neg (fun z => by have := (ji_lt (a := y0) (b := en) ⟨by omega, by omega⟩ ⟨by omega, by omega⟩).mp z; omega)]
    obtain ⟨S1, e1, a1, a2, a3, a4, a5, a6, a7⟩ := cs_set (S := SC) hrt 0 (ji en) 0 0
    obtain ⟨S2, e2, c1, c2, c3, c4, c5, c6, c7⟩ := ms_lay (S := SM) hct 0 (ji en) 0 0
    rw [e1, ho_s, e2, ho_s]
    exact ⟨S1, S2, 0, en, 0, 0, 0, 1, rfl, rfl, ⟨⟨a1, a2, a3, a4, fun z => by omega⟩, ⟨c1, c2, c3, c4, fun z => by omega⟩, ⟨by omega, by omega, by omega, by omega, Nat.zero_le _, by omega, by rw [Int.pow_zero]; omega, fun z => by omega, fun _ z => absurd rfl z⟩⟩, a7, c7, by omega, by omega, by omega⟩
end
