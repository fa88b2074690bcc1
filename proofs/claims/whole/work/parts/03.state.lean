/-! The state: ints and longs by cell number and place (a field's number, or an array's index); the cells' addresses are G 0, G 1, .. -/
abbrev St : Type := (Nat → Nat → Int32) × (Nat → Nat → Int64)
def st_I (S : St) (r k : Nat) (v : Int32) : St := (fun a b => if a = r ∧ b = k then v else S.1 a b, S.2)
def st_L (S : St) (r k : Nat) (v : Int64) : St := (S.1, fun a b => if a = r ∧ b = k then v else S.2 a b)
def st_R (S : St) (r : Nat) (f : Nat → Int32) : St := (fun a b => if a = r then f b else S.1 a b, S.2)
theorem st_I1 (S : St) (r k : Nat) (v : Int32) : (st_I S r k v).1 r k = v := by simp [st_I]
theorem st_In (S : St) {r k a b : Nat} (v : Int32) (h : ¬ (a = r ∧ b = k)) : (st_I S r k v).1 a b = S.1 a b := by simp only [st_I]; rw [if_neg h]
theorem st_IL (S : St) (r k : Nat) (v : Int32) : (st_I S r k v).2 = S.2 := rfl
theorem st_L1 (S : St) (r k : Nat) (v : Int64) : (st_L S r k v).2 r k = v := by simp [st_L]
theorem st_Ln (S : St) {r k a b : Nat} (v : Int64) (h : ¬ (a = r ∧ b = k)) : (st_L S r k v).2 a b = S.2 a b := by simp only [st_L]; rw [if_neg h]
theorem st_LI (S : St) (r k : Nat) (v : Int64) : (st_L S r k v).1 = S.1 := rfl
theorem st_Irow (S : St) {r a k : Nat} (v : Int32) (h : a ≠ r) : (st_I S r k v).1 a = S.1 a := by funext b; exact st_In S v (fun q => h q.1)
theorem st_Iupd (S : St) (r k : Nat) (v : Int32) : (st_I S r k v).1 r = upd (S.1 r) k v := by funext b; simp [st_I, upd]
theorem st_Lrow (S : St) {r a k : Nat} (v : Int64) (h : a ≠ r) : (st_L S r k v).2 a = S.2 a := by funext b; exact st_Ln S v (fun q => h q.1)
theorem st_Lupd (S : St) (r k : Nat) (v : Int64) : (st_L S r k v).2 r = vp_updL (S.2 r) k v := by funext b; simp [st_L, vp_updL]
theorem st_R1 (S : St) (r : Nat) (f : Nat → Int32) : (st_R S r f).1 r = f := by funext b; simp [st_R]
theorem st_Rn (S : St) {r a : Nat} (f : Nat → Int32) (h : a ≠ r) : (st_R S r f).1 a = S.1 a := by funext b; simp [st_R, h]
/-- addresses apart -/
def gi (G : Nat → Nat) (N : Nat) : Prop := ∀ i j, i < N → j < N → G i = G j → i = j
def wg (N : Nat) (G : Nat → Nat) (f : Nat → va_E) : va_W := (List.range N).map (fun r => (G r, f r))
def ag (N : Nat) (G : Nat → Nat) : Nat → Prop := fun q => ∃ i, i < N ∧ G i = q
theorem wg_at {N : Nat} {G : Nat → Nat} {f : Nat → va_E} {r : Nat} (h : r < N) : (wg N G f)[r]? = some (G r, f r) := by simp [wg, h]
theorem wg_in {N : Nat} {G : Nat → Nat} {f : Nat → va_E} {r : Nat} {q : Nat × va_E} (h : (wg N G f)[r]? = some q) : r < N ∧ q = (G r, f r) := by
  have hr : r < N := by
    have := (List.getElem?_eq_some_iff.mp h).1
    simpa [wg] using this
  rw [wg_at hr] at h
  exact ⟨hr, (Option.some.inj h).symm⟩
theorem wg_D {N : Nat} {G : Nat → Nat} (hG : gi G N) (f : Nat → va_E) : va_D (ag N G) (wg N G f) := by
  refine ⟨fun i j p q hi hj e => ?_, fun k q hk => ?_⟩
  · obtain ⟨h1, rfl⟩ := wg_in hi
    obtain ⟨h2, rfl⟩ := wg_in hj
    exact hG i j h1 h2 e
  · obtain ⟨h1, rfl⟩ := wg_in hk
    exact ⟨k, h1, rfl⟩
theorem wg_set {N : Nat} {G : Nat → Nat} {f f' : Nat → va_E} {r : Nat} {e : va_E} (he : f' r = e) (ho : ∀ q, q ≠ r → f' q = f q) : (wg N G f).set r (G r, e) = wg N G f' := by
  apply List.ext_getElem?
  intro i
  by_cases hi : i < N
  · rw [wg_at hi]
    by_cases hr : i = r
    · subst hr
      rw [List.getElem?_set_self (by simpa [wg] using hi), he]
    · rw [List.getElem?_set_ne (fun q => hr q.symm), wg_at hi, ho i hr]
  · rw [List.getElem?_eq_none (by simp [wg]; omega), List.getElem?_eq_none (by simp [wg]; omega)]
/-! the class's cells: 0 the object, 1 Figures, 2 its powers, 3 Arithmetic, 4 numbers, 5 the polynomial, 6 + 2 j the Value j (60 made, 61 between, 62 term), 7 + 2 j its polynomial -/
def kc (r : Nat) : Nat := if r = 0 then 3 else if r = 1 then 1 else if r = 2 then 6 else if r = 3 then 0 else if r = 4 then 7 else if r = 5 then 5 else if r < 132 then (if r % 2 = 0 then 2 else 5) else 8
def ec (cy : Nat → ClassId) (G : Nat → Nat) (S : St) (r : Nat) : va_E :=
  if kc r = 2 then .inr (2, [.ref (G (r + 1)), .int (S.1 r 1), .int (S.1 r 2), .int (S.1 r 3), .long (S.2 r 4), .int (S.1 r 5), .int (S.1 r 6), .int (S.1 r 7)])
  else if kc r = 5 then .inl (cy 0, 8, .inl (S.1 r))
  else if kc r = 3 then .inr (3, [.ref (G 1), .ref (G 3), .ref (G 4), .ref (G 5), .ref (G 126), .ref (G 128), .ref (G 130), .int (S.1 r 7), .int (S.1 r 8)])
  else if kc r = 1 then .inr (1, [.ref (G 2), .int (S.1 r 1), .int (S.1 r 2)])
  else if kc r = 0 then .inr (0, [.ref (G 1)])
  else if kc r = 6 then .inl (cy 1, 60, .inr (.inl (S.2 r)))
  else .inl (cy 2, 60, .inr (.inr (.inr (.inr (fun j => some (G (6 + 2 * j)))))))
abbrev wc (cy : Nat → ClassId) (G : Nat → Nat) (S : St) : va_W := wg 132 G (ec cy G S)
abbrev ac (G : Nat → Nat) : Nat → Prop := ag 132 G
theorem kc_lt {r k : Nat} (h : kc r = k) (hk : k ≠ 8) : r < 132 := by
  unfold kc at h
  by_cases hr : r < 132
  · exact hr
  · rw [if_neg (by omega), if_neg (by omega), if_neg (by omega), if_neg (by omega), if_neg (by omega), if_neg (by omega), if_neg hr] at h
    exact absurd h.symm hk
theorem kc_poly {r : Nat} (h : kc r = 2) : kc (r + 1) = 5 := by
  have hr := kc_lt h (by decide)
  unfold kc at h ⊢
  by_cases h0 : r < 6
  · have : r = 0 ∨ r = 1 ∨ r = 2 ∨ r = 3 ∨ r = 4 ∨ r = 5 := by omega
    rcases this with rfl | rfl | rfl | rfl | rfl | rfl <;> simp at h
  · rw [if_neg (by omega), if_neg (by omega), if_neg (by omega), if_neg (by omega), if_neg (by omega), if_neg (by omega), if_pos hr] at h
    have h2 : r % 2 = 0 := by
      by_cases q : r % 2 = 0
      · exact q
      · rw [if_neg q] at h; cases h
    rw [if_neg (by omega), if_neg (by omega), if_neg (by omega), if_neg (by omega), if_neg (by omega), if_neg (by omega), if_pos (by omega), if_neg (by omega)]
theorem kc_V {j : Nat} (h : j < 63) : kc (6 + 2 * j) = 2 := by
  unfold kc
  rw [if_neg (by omega), if_neg (by omega), if_neg (by omega), if_neg (by omega), if_neg (by omega), if_neg (by omega), if_pos (by omega), if_pos (by omega)]
theorem wc_V {cy : Nat → ClassId} {G : Nat → Nat} {S : St} {r : Nat} (h : kc r = 2) : (wc cy G S)[r]? = some (G r, .inr (2, [.ref (G (r + 1)), .int (S.1 r 1), .int (S.1 r 2), .int (S.1 r 3), .long (S.2 r 4), .int (S.1 r 5), .int (S.1 r 6), .int (S.1 r 7)])) := by
  rw [wg_at (kc_lt h (by decide))]; unfold ec; rw [if_pos h]
theorem wc_A {cy : Nat → ClassId} {G : Nat → Nat} {S : St} {r : Nat} (h : kc r = 5) : (wc cy G S)[r]? = some (G r, .inl (cy 0, 8, .inl (S.1 r))) := by
  rw [wg_at (kc_lt h (by decide))]; unfold ec; rw [if_neg (by rw [h]; decide), if_pos h]
theorem wc_0 {cy : Nat → ClassId} {G : Nat → Nat} {S : St} : (wc cy G S)[0]? = some (G 0, .inr (3, [.ref (G 1), .ref (G 3), .ref (G 4), .ref (G 5), .ref (G 126), .ref (G 128), .ref (G 130), .int (S.1 0 7), .int (S.1 0 8)])) := by
  rw [wg_at (by decide)]; rfl
theorem wc_1 {cy : Nat → ClassId} {G : Nat → Nat} {S : St} : (wc cy G S)[1]? = some (G 1, .inr (1, [.ref (G 2), .int (S.1 1 1), .int (S.1 1 2)])) := by
  rw [wg_at (by decide)]; rfl
theorem wc_2 {cy : Nat → ClassId} {G : Nat → Nat} {S : St} : (wc cy G S)[2]? = some (G 2, .inl (cy 1, 60, .inr (.inl (S.2 2)))) := by
  rw [wg_at (by decide)]; rfl
theorem wc_3 {cy : Nat → ClassId} {G : Nat → Nat} {S : St} : (wc cy G S)[3]? = some (G 3, .inr (0, [.ref (G 1)])) := by
  rw [wg_at (by decide)]; rfl
theorem wc_4 {cy : Nat → ClassId} {G : Nat → Nat} {S : St} : (wc cy G S)[4]? = some (G 4, .inl (cy 2, 60, .inr (.inr (.inr (.inr (fun j => some (G (6 + 2 * j)))))))) := by
  rw [wg_at (by decide)]; rfl
theorem ec_I {cy : Nat → ClassId} {G : Nat → Nat} {S : St} {r k : Nat} {v : Int32} : ∀ q, q ≠ r → ec cy G (st_I S r k v) q = ec cy G S q := by
  intro q hq; unfold ec; simp only [st_IL, st_Irow S v hq]
theorem ec_L {cy : Nat → ClassId} {G : Nat → Nat} {S : St} {r k : Nat} {v : Int64} : ∀ q, q ≠ r → ec cy G (st_L S r k v) q = ec cy G S q := by
  intro q hq; unfold ec; simp only [st_LI, st_Lrow S v hq]
theorem ec_R {cy : Nat → ClassId} {G : Nat → Nat} {S : St} {r : Nat} {f : Nat → Int32} : ∀ q, q ≠ r → ec cy G (st_R S r f) q = ec cy G S q := by
  intro q hq; unfold ec; simp only [st_Rn S f hq, show (st_R S r f).2 = S.2 from rfl]
/-! the reference's cells: 0 the object, 1 power, 2 kind, 3 lift, 4 sure, 5 bits, 6 up, 7 low, 8 first, 9 kept, 10 poly, 11 states -/
def km (r : Nat) : Nat := if r = 0 then 4 else if r = 1 ∨ r = 5 ∨ r = 6 ∨ r = 7 ∨ r = 11 then 6 else if r < 12 then 5 else 8
def lm (r : Nat) : Nat := if r = 9 then 512 else if r = 10 then 8 else if r = 11 then 2001 else 64
def em (cy : Nat → ClassId) (G : Nat → Nat) (S : St) (r : Nat) : va_E :=
  if km r = 4 then .inr (4, [.int (S.1 r 0), .int (S.1 r 1), .ref (G 1), .int (S.1 r 3), .int (S.1 r 4), .ref (G 2), .ref (G 3), .ref (G 4), .ref (G 5), .ref (G 6), .ref (G 7), .ref (G 8), .ref (G 9), .ref (G 10), .long (S.2 r 14), .long (S.2 r 15), .ref (G 11)])
  else if km r = 6 then .inl (cy 1, lm r, .inr (.inl (S.2 r)))
  else .inl (cy 0, lm r, .inl (S.1 r))
abbrev wm (cy : Nat → ClassId) (G : Nat → Nat) (S : St) : va_W := wg 12 G (em cy G S)
abbrev am (G : Nat → Nat) : Nat → Prop := ag 12 G
theorem km_lt {r k : Nat} (h : km r = k) (hk : k ≠ 8) : r < 12 := by
  unfold km at h
  by_cases hr : r < 12
  · exact hr
  · rw [if_neg (by omega), if_neg (by omega), if_neg hr] at h
    exact absurd h.symm hk
theorem wm_A {cy : Nat → ClassId} {G : Nat → Nat} {S : St} {r : Nat} (h : km r = 5) : (wm cy G S)[r]? = some (G r, .inl (cy 0, lm r, .inl (S.1 r))) := by
  rw [wg_at (km_lt h (by decide))]; unfold em; rw [if_neg (by rw [h]; decide), if_neg (by rw [h]; decide)]
theorem wm_L {cy : Nat → ClassId} {G : Nat → Nat} {S : St} {r : Nat} (h : km r = 6) : (wm cy G S)[r]? = some (G r, .inl (cy 1, lm r, .inr (.inl (S.2 r)))) := by
  rw [wg_at (km_lt h (by decide))]; unfold em; rw [if_neg (by rw [h]; decide), if_pos h]
theorem wm_0 {cy : Nat → ClassId} {G : Nat → Nat} {S : St} : (wm cy G S)[0]? = some (G 0, .inr (4, [.int (S.1 0 0), .int (S.1 0 1), .ref (G 1), .int (S.1 0 3), .int (S.1 0 4), .ref (G 2), .ref (G 3), .ref (G 4), .ref (G 5), .ref (G 6), .ref (G 7), .ref (G 8), .ref (G 9), .ref (G 10), .long (S.2 0 14), .long (S.2 0 15), .ref (G 11)])) := by
  rw [wg_at (by decide)]; rfl
theorem em_I {cy : Nat → ClassId} {G : Nat → Nat} {S : St} {r k : Nat} {v : Int32} : ∀ q, q ≠ r → em cy G (st_I S r k v) q = em cy G S q := by
  intro q hq; unfold em; simp only [st_IL, st_Irow S v hq]
theorem em_L {cy : Nat → ClassId} {G : Nat → Nat} {S : St} {r k : Nat} {v : Int64} : ∀ q, q ≠ r → em cy G (st_L S r k v) q = em cy G S q := by
  intro q hq; unfold em; simp only [st_LI, st_Lrow S v hq]
