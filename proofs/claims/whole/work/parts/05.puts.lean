/-! writes, by the state; the ends of methods that write; what else the walks need -/
def fu : Nat := 4000
def bd2 {α β : Type} (o : Option (α × St)) (f : α → St → Option β) : Option β := match o with
  | none => none
  | some q => f q.1 q.2
theorem ho_b2 {α β : Type} {o : Option (α × St)} {f : α → St → Option β} {r : β} (hm : bd2 o f = some r) : ∃ x S, o = some (x, S) ∧ f x S = some r := by
  cases o with
  | none => cases hm
  | some q => exact ⟨q.1, q.2, rfl, hm⟩
theorem oob_lt {i : Int32} {n : Nat} (h : ¬ oob i n) : i.toNatClampNeg < n + 3 := by
  have h2 : ¬ n ≤ i.toNatClampNeg := fun q => h (Or.inr q)
  omega
theorem sw_out {x : Int32} (h0 : ¬ x = 0) (h1 : ¬ x = 1) (h2 : ¬ x = 2) (h3 : ¬ x = 3) : x.toInt < 0 ∨ 3 < x.toInt := by
  have e0 : x.toInt ≠ 0 := fun q => h0 (Int32.toInt_inj.mp (by rw [q]; rfl))
  have e1 : x.toInt ≠ 1 := fun q => h1 (Int32.toInt_inj.mp (by rw [q]; rfl))
  have e2 : x.toInt ≠ 2 := fun q => h2 (Int32.toInt_inj.mp (by rw [q]; rfl))
  have e3 : x.toInt ≠ 3 := fun q => h3 (Int32.toInt_inj.mp (by rw [q]; rfl))
  omega
/-- what a walk holds of its method -/
def cx (p : Program) (s : State) (m : MethodId) (args : Array Value) (meth : Method) (c : Code) (cc : ByteArray) (nL : Nat) (ret : Option FieldType) (own : String) (Ts : List Cond) (D : va_G) (cy : Nat → ClassId) : Prop := CallFix p m c cc nL s args Ts own ∧ meth.sig.returnType = ret ∧ meth.locks = false ∧ va_K D vwCl (ty3 cy) s
section
variable {p : Program} {l : Launch} {e : Env} {R : Room} {s : State} {m : MethodId} {args : Array Value} {below : List Frame} {meth : Method} {c : Code} {H : Heap} {locs : List Loc} {cells slots : Nat} {Q : State → Prop} {cc : ByteArray} {pc : Nat} {ls : Array Slot} {rest : List Value}
variable {D : va_G} {cy : Nat → ClassId} {S : St} {G : Nat → Nat} {r index : Nat} {own : String} {Ts : List Cond}
/-! the class's puts -/
theorem p_cVI {v : Int32} (hG : gi G 132) (hx : p.tables.exec = Jvm.exec) (hb : c.code = cc) (hts : ∀ w ∈ Ts, w.before args s = true) (hin : ∀ w ∈ wsX20, w ∈ Ts) (hown : s.vm.findClass own = some m.cls) (hK : va_K D vwCl (ty3 cy) s) (hP : va_P D vwCl (wc cy G S) H) (hS : va_S (ac G) s.heap H locs) (h : kc r = 2) (k : Nat) (hk : k = 1 ∨ k = 2 ∨ k = 3 ∨ k = 5 ∨ k = 6 ∨ k = 7) (hlink : (Cond.fieldLink own index "LeftNumbers$Value" (TX2 k).2.1 (TX2 k).2.2.1).before args s = true) (hdg : decode cc pc = .ok (.putfield index, 3))
    (kk : ∀ (H1 : Heap) (locs1 : List Loc), va_P D vwCl (wc cy G (st_I S r k v)) H1 → va_S (ac G) s.heap H1 locs1 → W p l e R s m args below meth c H1 locs1 cells slots Q (F0 m (pc + 3) ls rest)) : W p l e R s m args below meth c H locs cells slots Q (F0 m pc ls (.int v :: .ref (G r) :: rest)) := by
  have key : ∀ k2, k2 = k → ec cy G (st_I S r k2 v) r = .inr (2, ([.ref (G (r + 1)), .int (S.1 r 1), .int (S.1 r 2), .int (S.1 r 3), .long (S.2 r 4), .int (S.1 r 5), .int (S.1 r 6), .int (S.1 r 7)] : List Value).set k2 (.int v)) := by
    intro k2 e2
    unfold ec
    rw [if_pos h]
    rcases hk with q | q | q | q | q | q <;> (rw [q] at e2; subst e2; simp [st_I])
  rcases hk with q | q | q | q | q | q <;> subst q <;>
  exact va_put (D := D) (ci := 2) (v := .int v) (ty := .int) (C := RX2) (T := TX2) (N := 8) hx hb hts hin tyX2 tyX2_ok nmX2 hown hK hP (wg_D hG _) hS r (wc_V h) rfl _ (by decide) hlink (fun _ h9 => h9) rfl (by decide +kernel) rfl rfl (Nat.le_of_ble_eq_true rfl) hdg (fun H1 locs1 hP1 _ hS1 => kk H1 locs1 (by rw [wg_set (key _ rfl) ec_I] at hP1; exact hP1) hS1)
theorem p_cVL {v : Int64} (hG : gi G 132) (hx : p.tables.exec = Jvm.exec) (hb : c.code = cc) (hts : ∀ w ∈ Ts, w.before args s = true) (hin : ∀ w ∈ wsX20, w ∈ Ts) (hown : s.vm.findClass own = some m.cls) (hK : va_K D vwCl (ty3 cy) s) (hP : va_P D vwCl (wc cy G S) H) (hS : va_S (ac G) s.heap H locs) (h : kc r = 2) (k : Nat) (hk : k = 4) (hlink : (Cond.fieldLink own index "LeftNumbers$Value" (TX2 k).2.1 (TX2 k).2.2.1).before args s = true) (hdg : decode cc pc = .ok (.putfield index, 3))
    (kk : ∀ (H1 : Heap) (locs1 : List Loc), va_P D vwCl (wc cy G (st_L S r k v)) H1 → va_S (ac G) s.heap H1 locs1 → W p l e R s m args below meth c H1 locs1 cells slots Q (F0 m (pc + 3) ls rest)) : W p l e R s m args below meth c H locs cells slots Q (F0 m pc ls (.long v :: .ref (G r) :: rest)) := by
  subst hk
  have key : ec cy G (st_L S r 4 v) r = .inr (2, ([.ref (G (r + 1)), .int (S.1 r 1), .int (S.1 r 2), .int (S.1 r 3), .long (S.2 r 4), .int (S.1 r 5), .int (S.1 r 6), .int (S.1 r 7)] : List Value).set 4 (.long v)) := by
    unfold ec
    rw [if_pos h]
    simp [st_L]
  exact va_put (D := D) (ci := 2) (v := .long v) (ty := .long) (C := RX2) (T := TX2) (N := 8) hx hb hts hin tyX2 tyX2_ok nmX2 hown hK hP (wg_D hG _) hS r (wc_V h) rfl _ (by decide) hlink (fun _ h9 => h9) rfl (by decide +kernel) rfl rfl (Nat.le_of_ble_eq_true rfl) hdg (fun H1 locs1 hP1 _ hS1 => kk H1 locs1 (by rw [wg_set key ec_L] at hP1; exact hP1) hS1)
theorem p_cFI {v : Int32} (hG : gi G 132) (hx : p.tables.exec = Jvm.exec) (hb : c.code = cc) (hts : ∀ w ∈ Ts, w.before args s = true) (hin : ∀ w ∈ wsX10, w ∈ Ts) (hown : s.vm.findClass own = some m.cls) (hK : va_K D vwCl (ty3 cy) s) (hP : va_P D vwCl (wc cy G S) H) (hS : va_S (ac G) s.heap H locs) (k : Nat) (hk : k = 1 ∨ k = 2) (hlink : (Cond.fieldLink own index "LeftNumbers$Figures" (TX1 k).2.1 (TX1 k).2.2.1).before args s = true) (hdg : decode cc pc = .ok (.putfield index, 3))
    (kk : ∀ (H1 : Heap) (locs1 : List Loc), va_P D vwCl (wc cy G (st_I S 1 k v)) H1 → va_S (ac G) s.heap H1 locs1 → W p l e R s m args below meth c H1 locs1 cells slots Q (F0 m (pc + 3) ls rest)) : W p l e R s m args below meth c H locs cells slots Q (F0 m pc ls (.int v :: .ref (G 1) :: rest)) := by
  have key : ∀ k2, k2 = k → ec cy G (st_I S 1 k2 v) 1 = .inr (1, ([.ref (G 2), .int (S.1 1 1), .int (S.1 1 2)] : List Value).set k2 (.int v)) := by
    intro k2 e2
    rcases hk with q | q <;> (rw [q] at e2; subst e2; rfl)
  rcases hk with q | q <;> subst q <;>
  exact va_put (D := D) (ci := 1) (v := .int v) (ty := .int) (C := RX1) (T := TX1) (N := 3) hx hb hts hin tyX1 tyX1_ok nmX1 hown hK hP (wg_D hG _) hS 1 wc_1 rfl _ (by decide) hlink (fun _ h9 => h9) rfl (by decide +kernel) rfl rfl (Nat.le_of_ble_eq_true rfl) hdg (fun H1 locs1 hP1 _ hS1 => kk H1 locs1 (by rw [wg_set (key _ rfl) ec_I] at hP1; exact hP1) hS1)
theorem p_cNI {v : Int32} (hG : gi G 132) (hx : p.tables.exec = Jvm.exec) (hb : c.code = cc) (hts : ∀ w ∈ Ts, w.before args s = true) (hin : ∀ w ∈ wsX30, w ∈ Ts) (hown : s.vm.findClass own = some m.cls) (hK : va_K D vwCl (ty3 cy) s) (hP : va_P D vwCl (wc cy G S) H) (hS : va_S (ac G) s.heap H locs) (k : Nat) (hk : k = 7) (hlink : (Cond.fieldLink own index "LeftNumbers" (TX3 k).2.1 (TX3 k).2.2.1).before args s = true) (hdg : decode cc pc = .ok (.putfield index, 3))
    (kk : ∀ (H1 : Heap) (locs1 : List Loc), va_P D vwCl (wc cy G (st_I S 0 k v)) H1 → va_S (ac G) s.heap H1 locs1 → W p l e R s m args below meth c H1 locs1 cells slots Q (F0 m (pc + 3) ls rest)) : W p l e R s m args below meth c H locs cells slots Q (F0 m pc ls (.int v :: .ref (G 0) :: rest)) := by
  subst hk
  have key : ec cy G (st_I S 0 7 v) 0 = .inr (3, ([.ref (G 1), .ref (G 3), .ref (G 4), .ref (G 5), .ref (G 126), .ref (G 128), .ref (G 130), .int (S.1 0 7), .int (S.1 0 8)] : List Value).set 7 (.int v)) := rfl
  exact va_put (D := D) (ci := 3) (v := .int v) (ty := .int) (C := RX3) (T := TX3) (N := 9) hx hb hts hin tyX3 tyX3_ok nmX3 hown hK hP (wg_D hG _) hS 0 wc_0 rfl _ (by decide) hlink (fun _ h9 => h9) rfl (by decide +kernel) rfl rfl (Nat.le_of_ble_eq_true rfl) hdg (fun H1 locs1 hP1 _ hS1 => kk H1 locs1 (by rw [wg_set key ec_I] at hP1; exact hP1) hS1)
theorem p_cNZ {v : Int32} (hG : gi G 132) (hx : p.tables.exec = Jvm.exec) (hb : c.code = cc) (hts : ∀ w ∈ Ts, w.before args s = true) (hin : ∀ w ∈ wsX30, w ∈ Ts) (hown : s.vm.findClass own = some m.cls) (hK : va_K D vwCl (ty3 cy) s) (hP : va_P D vwCl (wc cy G S) H) (hS : va_S (ac G) s.heap H locs) (k : Nat) (hk : k = 8) (hz : v = 0 ∨ v = 1) (hlink : (Cond.fieldLink own index "LeftNumbers" (TX3 k).2.1 (TX3 k).2.2.1).before args s = true) (hdg : decode cc pc = .ok (.putfield index, 3))
    (kk : ∀ (H1 : Heap) (locs1 : List Loc), va_P D vwCl (wc cy G (st_I S 0 k v)) H1 → va_S (ac G) s.heap H1 locs1 → W p l e R s m args below meth c H1 locs1 cells slots Q (F0 m (pc + 3) ls rest)) : W p l e R s m args below meth c H locs cells slots Q (F0 m pc ls (.int v :: .ref (G 0) :: rest)) := by
  subst hk
  have key : ec cy G (st_I S 0 8 v) 0 = .inr (3, ([.ref (G 1), .ref (G 3), .ref (G 4), .ref (G 5), .ref (G 126), .ref (G 128), .ref (G 130), .int (S.1 0 7), .int (S.1 0 8)] : List Value).set 8 (.int v)) := rfl
  exact va_put (D := D) (ci := 3) (v := .int v) (ty := .boolean) (C := RX3) (T := TX3) (N := 9) hx hb hts hin tyX3 tyX3_ok nmX3 hown hK hP (wg_D hG _) hS 0 wc_0 rfl _ (by decide) hlink (fun _ h9 => h9) rfl (by decide +kernel) (nb_01 hz) (by rcases hz with rfl | rfl <;> rfl) (Nat.le_of_ble_eq_true rfl) hdg (fun H1 locs1 hP1 _ hS1 => kk H1 locs1 (by rw [wg_set key ec_I] at hP1; exact hP1) hS1)
/-! the reference's puts -/
theorem p_mI {v : Int32} (hG : gi G 12) (hx : p.tables.exec = Jvm.exec) (hb : c.code = cc) (hts : ∀ w ∈ Ts, w.before args s = true) (hin : ∀ w ∈ wsX40, w ∈ Ts) (hown : s.vm.findClass own = some m.cls) (hK : va_K D vwCl (ty3 cy) s) (hP : va_P D vwCl (wm cy G S) H) (hS : va_S (am G) s.heap H locs) (k : Nat) (hk : k = 0 ∨ k = 1 ∨ k = 3) (hlink : (Cond.fieldLink own index "LeftNumbersModel" (TX4 k).2.1 (TX4 k).2.2.1).before args s = true) (hdg : decode cc pc = .ok (.putfield index, 3))
    (kk : ∀ (H1 : Heap) (locs1 : List Loc), va_P D vwCl (wm cy G (st_I S 0 k v)) H1 → va_S (am G) s.heap H1 locs1 → W p l e R s m args below meth c H1 locs1 cells slots Q (F0 m (pc + 3) ls rest)) : W p l e R s m args below meth c H locs cells slots Q (F0 m pc ls (.int v :: .ref (G 0) :: rest)) := by
  have key : ∀ k2, k2 = k → em cy G (st_I S 0 k2 v) 0 = .inr (4, ([.int (S.1 0 0), .int (S.1 0 1), .ref (G 1), .int (S.1 0 3), .int (S.1 0 4), .ref (G 2), .ref (G 3), .ref (G 4), .ref (G 5), .ref (G 6), .ref (G 7), .ref (G 8), .ref (G 9), .ref (G 10), .long (S.2 0 14), .long (S.2 0 15), .ref (G 11)] : List Value).set k2 (.int v)) := by
    intro k2 e2
    rcases hk with q | q | q <;> (rw [q] at e2; subst e2; rfl)
  rcases hk with q | q | q <;> subst q <;>
  exact va_put (D := D) (ci := 4) (v := .int v) (ty := .int) (C := RX4) (T := TX4) (N := 17) hx hb hts hin tyX4 tyX4_ok nmX4 hown hK hP (wg_D hG _) hS 0 wm_0 rfl _ (by decide) hlink (fun _ h9 => h9) rfl (by decide +kernel) rfl rfl (Nat.le_of_ble_eq_true rfl) hdg (fun H1 locs1 hP1 _ hS1 => kk H1 locs1 (by rw [wg_set (key _ rfl) em_I] at hP1; exact hP1) hS1)
theorem p_mZ {v : Int32} (hG : gi G 12) (hx : p.tables.exec = Jvm.exec) (hb : c.code = cc) (hts : ∀ w ∈ Ts, w.before args s = true) (hin : ∀ w ∈ wsX40, w ∈ Ts) (hown : s.vm.findClass own = some m.cls) (hK : va_K D vwCl (ty3 cy) s) (hP : va_P D vwCl (wm cy G S) H) (hS : va_S (am G) s.heap H locs) (k : Nat) (hk : k = 4) (hz : v = 0 ∨ v = 1) (hlink : (Cond.fieldLink own index "LeftNumbersModel" (TX4 k).2.1 (TX4 k).2.2.1).before args s = true) (hdg : decode cc pc = .ok (.putfield index, 3))
    (kk : ∀ (H1 : Heap) (locs1 : List Loc), va_P D vwCl (wm cy G (st_I S 0 k v)) H1 → va_S (am G) s.heap H1 locs1 → W p l e R s m args below meth c H1 locs1 cells slots Q (F0 m (pc + 3) ls rest)) : W p l e R s m args below meth c H locs cells slots Q (F0 m pc ls (.int v :: .ref (G 0) :: rest)) := by
  subst hk
  have key : em cy G (st_I S 0 4 v) 0 = .inr (4, ([.int (S.1 0 0), .int (S.1 0 1), .ref (G 1), .int (S.1 0 3), .int (S.1 0 4), .ref (G 2), .ref (G 3), .ref (G 4), .ref (G 5), .ref (G 6), .ref (G 7), .ref (G 8), .ref (G 9), .ref (G 10), .long (S.2 0 14), .long (S.2 0 15), .ref (G 11)] : List Value).set 4 (.int v)) := rfl
  exact va_put (D := D) (ci := 4) (v := .int v) (ty := .boolean) (C := RX4) (T := TX4) (N := 17) hx hb hts hin tyX4 tyX4_ok nmX4 hown hK hP (wg_D hG _) hS 0 wm_0 rfl _ (by decide) hlink (fun _ h9 => h9) rfl (by decide +kernel) (nb_01 hz) (by rcases hz with rfl | rfl <;> rfl) (Nat.le_of_ble_eq_true rfl) hdg (fun H1 locs1 hP1 _ hS1 => kk H1 locs1 (by rw [wg_set key em_I] at hP1; exact hP1) hS1)
theorem p_mL {v : Int64} (hG : gi G 12) (hx : p.tables.exec = Jvm.exec) (hb : c.code = cc) (hts : ∀ w ∈ Ts, w.before args s = true) (hin : ∀ w ∈ wsX40, w ∈ Ts) (hown : s.vm.findClass own = some m.cls) (hK : va_K D vwCl (ty3 cy) s) (hP : va_P D vwCl (wm cy G S) H) (hS : va_S (am G) s.heap H locs) (k : Nat) (hk : k = 14 ∨ k = 15) (hlink : (Cond.fieldLink own index "LeftNumbersModel" (TX4 k).2.1 (TX4 k).2.2.1).before args s = true) (hdg : decode cc pc = .ok (.putfield index, 3))
    (kk : ∀ (H1 : Heap) (locs1 : List Loc), va_P D vwCl (wm cy G (st_L S 0 k v)) H1 → va_S (am G) s.heap H1 locs1 → W p l e R s m args below meth c H1 locs1 cells slots Q (F0 m (pc + 3) ls rest)) : W p l e R s m args below meth c H locs cells slots Q (F0 m pc ls (.long v :: .ref (G 0) :: rest)) := by
  have key : ∀ k2, k2 = k → em cy G (st_L S 0 k2 v) 0 = .inr (4, ([.int (S.1 0 0), .int (S.1 0 1), .ref (G 1), .int (S.1 0 3), .int (S.1 0 4), .ref (G 2), .ref (G 3), .ref (G 4), .ref (G 5), .ref (G 6), .ref (G 7), .ref (G 8), .ref (G 9), .ref (G 10), .long (S.2 0 14), .long (S.2 0 15), .ref (G 11)] : List Value).set k2 (.long v)) := by
    intro k2 e2
    rcases hk with q | q <;> (rw [q] at e2; subst e2; rfl)
  rcases hk with q | q <;> subst q <;>
  exact va_put (D := D) (ci := 4) (v := .long v) (ty := .long) (C := RX4) (T := TX4) (N := 17) hx hb hts hin tyX4 tyX4_ok nmX4 hown hK hP (wg_D hG _) hS 0 wm_0 rfl _ (by decide) hlink (fun _ h9 => h9) rfl (by decide +kernel) rfl rfl (Nat.le_of_ble_eq_true rfl) hdg (fun H1 locs1 hP1 _ hS1 => kk H1 locs1 (by rw [wg_set (key _ rfl) em_L] at hP1; exact hP1) hS1)
/-! stores into arrays -/
theorem ec_A (h : kc r = 5) : ec cy G S r = .inl (cy 0, 8, .inl (S.1 r)) := by
  unfold ec; rw [if_neg (by rw [h]; decide), if_pos h]
theorem em_A (h : km r = 5) : em cy G S r = .inl (cy 0, lm r, .inl (S.1 r)) := by
  unfold em; rw [if_neg (by rw [h]; decide), if_neg (by rw [h]; decide)]
theorem em_J (h : km r = 6) : em cy G S r = .inl (cy 1, lm r, .inr (.inl (S.2 r))) := by
  unfold em; rw [if_neg (by rw [h]; decide), if_pos h]
theorem a_cI {i v : Int32} (hG : gi G 132) (hx : p.tables.exec = Jvm.exec) (hb : c.code = cc) (hK : va_K D vwCl (ty3 cy) s) (hP : va_P D vwCl (wc cy G S) H) (hS : va_S (ac G) s.heap H locs) (h : kc r = 5) (hi : ¬ oob i 8) (hdg : decode cc pc = .ok (.iastore, 1))
    (kk : ∀ (H1 : Heap) (locs1 : List Loc), va_P D vwCl (wc cy G (st_I S r i.toNatClampNeg v)) H1 → va_S (ac G) s.heap H1 locs1 → W p l e R s m args below meth c H1 locs1 cells slots Q (F0 m (pc + 1) ls rest)) : W p l e R s m args below meth c H locs cells slots Q (F0 m pc ls (.int v :: .int i :: .ref (G r) :: rest)) :=
  va_iast hx hb hK hP (wg_D hG _) hS r 0 (wc_A h) rfl hi hdg (fun H1 locs1 hP1 _ hS1 => kk H1 locs1 (by rw [wg_set (f' := ec cy G (st_I S r i.toNatClampNeg v)) (by rw [ec_A h, st_Iupd]) ec_I] at hP1; exact hP1) hS1)
theorem a_cL {i : Int32} {v : Int64} (hG : gi G 132) (hx : p.tables.exec = Jvm.exec) (hb : c.code = cc) (hK : va_K D vwCl (ty3 cy) s) (hP : va_P D vwCl (wc cy G S) H) (hS : va_S (ac G) s.heap H locs) (_h : kc 2 = 6) (hi : ¬ oob i 60) (hdg : decode cc pc = .ok (.lastore, 1))
    (kk : ∀ (H1 : Heap) (locs1 : List Loc), va_P D vwCl (wc cy G (st_L S 2 i.toNatClampNeg v)) H1 → va_S (ac G) s.heap H1 locs1 → W p l e R s m args below meth c H1 locs1 cells slots Q (F0 m (pc + 1) ls rest)) : W p l e R s m args below meth c H locs cells slots Q (F0 m pc ls (.long v :: .int i :: .ref (G 2) :: rest)) :=
  va_last hx hb hK hP (wg_D hG _) hS 2 1 wc_2 rfl hi hdg (fun H1 locs1 hP1 _ hS1 => kk H1 locs1 (by rw [wg_set (f' := ec cy G (st_L S 2 i.toNatClampNeg v)) (by rw [show ec cy G (st_L S 2 i.toNatClampNeg v) 2 = .inl (cy 1, 60, .inr (.inl ((st_L S 2 i.toNatClampNeg v).2 2))) from rfl, st_Lupd]) ec_L] at hP1; exact hP1) hS1)
theorem a_mI {i v : Int32} (hG : gi G 12) (hx : p.tables.exec = Jvm.exec) (hb : c.code = cc) (hK : va_K D vwCl (ty3 cy) s) (hP : va_P D vwCl (wm cy G S) H) (hS : va_S (am G) s.heap H locs) (h : km r = 5) (hi : ¬ oob i (lm r)) (hdg : decode cc pc = .ok (.iastore, 1))
    (kk : ∀ (H1 : Heap) (locs1 : List Loc), va_P D vwCl (wm cy G (st_I S r i.toNatClampNeg v)) H1 → va_S (am G) s.heap H1 locs1 → W p l e R s m args below meth c H1 locs1 cells slots Q (F0 m (pc + 1) ls rest)) : W p l e R s m args below meth c H locs cells slots Q (F0 m pc ls (.int v :: .int i :: .ref (G r) :: rest)) :=
  va_iast hx hb hK hP (wg_D hG _) hS r 0 (wm_A h) rfl hi hdg (fun H1 locs1 hP1 _ hS1 => kk H1 locs1 (by rw [wg_set (f' := em cy G (st_I S r i.toNatClampNeg v)) (by rw [em_A h, st_Iupd]) em_I] at hP1; exact hP1) hS1)
theorem a_mL {i : Int32} {v : Int64} (hG : gi G 12) (hx : p.tables.exec = Jvm.exec) (hb : c.code = cc) (hK : va_K D vwCl (ty3 cy) s) (hP : va_P D vwCl (wm cy G S) H) (hS : va_S (am G) s.heap H locs) (h : km r = 6) (hi : ¬ oob i (lm r)) (hdg : decode cc pc = .ok (.lastore, 1))
    (kk : ∀ (H1 : Heap) (locs1 : List Loc), va_P D vwCl (wm cy G (st_L S r i.toNatClampNeg v)) H1 → va_S (am G) s.heap H1 locs1 → W p l e R s m args below meth c H1 locs1 cells slots Q (F0 m (pc + 1) ls rest)) : W p l e R s m args below meth c H locs cells slots Q (F0 m pc ls (.long v :: .int i :: .ref (G r) :: rest)) :=
  va_last hx hb hK hP (wg_D hG _) hS r 1 (wm_L h) rfl hi hdg (fun H1 locs1 hP1 _ hS1 => kk H1 locs1 (by rw [wg_set (f' := em cy G (st_L S r i.toNatClampNeg v)) (by rw [em_J h, st_Lupd]) em_L] at hP1; exact hP1) hS1)
/-- System.arraycopy of a row of eight ints -/
theorem r_copy {r0 : Nat} (hG : gi G 132) (hx : p.tables.exec = Jvm.exec) (hb : c.code = cc) (hml : c.maxLocals = ls.size) (hown : s.vm.findClass own = some m.cls) (hlink : (Cond.methodLink own index arraycopyName).before args s = true) (hnat : (Cond.native arraycopyName).before args s = true) (hstat : (Cond.static arraycopyName).before args s = true) (hini : (Cond.initialized "java/lang/System").before args s = true) (hK : va_K D vwCl (ty3 cy) s) (hP : va_P D vwCl (wc cy G S) H) (hS : va_S (ac G) s.heap H locs) (h0 : kc r0 = 5) (h : kc r = 5)
    (hframes : 1 ≤ R.frames) (hlocals : (rest.map fun v => v.category).sum + (nativeFrameWords "java/lang/System" "arraycopy" 5 + 11) ≤ R.locals) (hdg : decode cc pc = .ok (.invokestatic index, 3))
    (kk : ∀ (H1 : Heap) (locs1 : List Loc), va_P D vwCl (wc cy G (st_R S r (va_cpy (S.1 r0) (S.1 r) 0 0 8))) H1 → va_S (ac G) s.heap H1 locs1 → W p l e R s m args below meth c H1 locs1 cells slots Q (F0 m (pc + 3) ls rest)) : W p l e R s m args below meth c H locs cells slots Q (F0 m pc ls (.int 8 :: .int 0 :: .ref (G r) :: .int 0 :: .ref (G r0) :: rest)) :=
  va_copyi (n := 8) (sp := 0) (dp := 0) hx hb hml hown hlink hnat hstat hini hK hP (wg_D hG _) hS r0 r 0 0 (wc_A h0) (wc_A h) (ty := .int) rfl rfl rfl (by decide) (by decide) (by decide) (by decide) (by decide) (fun _ _ => rfl) hframes hlocals hdg (fun H1 locs1 hP1 _ hS1 => kk H1 locs1 (by rw [wg_set (f' := ec cy G (st_R S r (va_cpy (S.1 r0) (S.1 r) 0 0 8))) (by rw [ec_A h, st_R1]; rfl) ec_R] at hP1; exact hP1) hS1)
variable {w : St → va_W} {A : Nat → Prop} {S0 : St}
theorem e_i {v r0 : Int32} (hx : p.tables.exec = Jvm.exec) (hb : c.code = cc) (hr : meth.sig.returnType = some .int) (hlocks : meth.locks = false) (hK : va_K D vwCl (ty3 cy) s) (hP : va_P D vwCl (w S) H) (hS : va_S A s.heap H locs) (hv : some v = some r0) (hdg : decode cc pc = .ok (.ireturn, 1)) : W p l e R s m args below meth c H locs 0 0 (MQ below (qi w D cy A r0 S) args s 0 0 A) (F0 m pc ls [.int v]) :=
  W.iret hx hb hr (fun t ht hW => ⟨⟨v, S, rfl, ⟨Option.some.inj hv, rfl⟩, by rw [ht]; exact hP, va_K.moved hW.alike hK⟩, hS.F ht⟩) hS.2.2 hdg hlocks
theorem e_iw {v r0 : Int32} (hx : p.tables.exec = Jvm.exec) (hb : c.code = cc) (hr : meth.sig.returnType = some .int) (hlocks : meth.locks = false) (hK : va_K D vwCl (ty3 cy) s) (hP : va_P D vwCl (w S) H) (hS : va_S A s.heap H locs) (hv : some (v, S) = some (r0, S0)) (hdg : decode cc pc = .ok (.ireturn, 1)) : W p l e R s m args below meth c H locs 0 0 (MQ below (qi w D cy A r0 S0) args s 0 0 A) (F0 m pc ls [.int v]) := by
  cases hv
  exact e_i hx hb hr hlocks hK hP hS rfl hdg
theorem e_z {v r0 : Int32} (hx : p.tables.exec = Jvm.exec) (hb : c.code = cc) (hr : meth.sig.returnType = some .boolean) (hlocks : meth.locks = false) (hK : va_K D vwCl (ty3 cy) s) (hP : va_P D vwCl (w S) H) (hS : va_S A s.heap H locs) (hn : narrow .boolean (.int v) = .int v) (hv : some v = some r0) (hdg : decode cc pc = .ok (.ireturn, 1)) : W p l e R s m args below meth c H locs 0 0 (MQ below (qi w D cy A r0 S) args s 0 0 A) (F0 m pc ls [.int v]) :=
  W.zret hx hb hr hn (fun t ht hW => ⟨⟨v, S, rfl, ⟨Option.some.inj hv, rfl⟩, by rw [ht]; exact hP, va_K.moved hW.alike hK⟩, hS.F ht⟩) hS.2.2 hdg hlocks
theorem e_zw {v r0 : Int32} (hx : p.tables.exec = Jvm.exec) (hb : c.code = cc) (hr : meth.sig.returnType = some .boolean) (hlocks : meth.locks = false) (hK : va_K D vwCl (ty3 cy) s) (hP : va_P D vwCl (w S) H) (hS : va_S A s.heap H locs) (hn : narrow .boolean (.int v) = .int v) (hv : some (v, S) = some (r0, S0)) (hdg : decode cc pc = .ok (.ireturn, 1)) : W p l e R s m args below meth c H locs 0 0 (MQ below (qi w D cy A r0 S0) args s 0 0 A) (F0 m pc ls [.int v]) := by
  cases hv
  exact e_z hx hb hr hlocks hK hP hS hn rfl hdg
theorem e_l {v r0 : Int64} (hx : p.tables.exec = Jvm.exec) (hb : c.code = cc) (hr : meth.sig.returnType = some .long) (hlocks : meth.locks = false) (hK : va_K D vwCl (ty3 cy) s) (hP : va_P D vwCl (w S) H) (hS : va_S A s.heap H locs) (hv : some v = some r0) (hdg : decode cc pc = .ok (.lreturn, 1)) : W p l e R s m args below meth c H locs 0 0 (MQ below (ql w D cy A r0 S) args s 0 0 A) (F0 m pc ls [.long v]) :=
  W.lret hx hb hr (fun t ht hW => ⟨⟨v, S, rfl, ⟨Option.some.inj hv, rfl⟩, by rw [ht]; exact hP, va_K.moved hW.alike hK⟩, hS.F ht⟩) hS.2.2 hdg hlocks
theorem e_lw {v r0 : Int64} (hx : p.tables.exec = Jvm.exec) (hb : c.code = cc) (hr : meth.sig.returnType = some .long) (hlocks : meth.locks = false) (hK : va_K D vwCl (ty3 cy) s) (hP : va_P D vwCl (w S) H) (hS : va_S A s.heap H locs) (hv : some (v, S) = some (r0, S0)) (hdg : decode cc pc = .ok (.lreturn, 1)) : W p l e R s m args below meth c H locs 0 0 (MQ below (ql w D cy A r0 S0) args s 0 0 A) (F0 m pc ls [.long v]) := by
  cases hv
  exact e_l hx hb hr hlocks hK hP hS rfl hdg
theorem e_v (hx : p.tables.exec = Jvm.exec) (hb : c.code = cc) (hr : meth.sig.returnType = none) (hlocks : meth.locks = false) (hK : va_K D vwCl (ty3 cy) s) (hP : va_P D vwCl (w S) H) (hS : va_S A s.heap H locs) (hv : some S = some S0) (hdg : decode cc pc = .ok (.return_, 1)) : W p l e R s m args below meth c H locs 0 0 (MQ below (qv w D cy A S0) args s 0 0 A) (F0 m pc ls []) :=
  W.vret hx hb hr (fun t ht hW => ⟨⟨S, rfl, Option.some.inj hv, by rw [ht]; exact hP, va_K.moved hW.alike hK⟩, hS.F ht⟩) hS.2.2 hdg hlocks
theorem e_qR {a : Nat} {r0 : Option Nat} {C9 : String} (hx : p.tables.exec = Jvm.exec) (hb : c.code = cc) (hr : meth.sig.returnType = some (.object C9)) (hlocks : meth.locks = false) (hK : va_K D vwCl (ty3 cy) s) (hP : va_P D vwCl (w S) H) (hS : va_S A s.heap H locs) (hv : some (some a) = some r0) (hdg : decode cc pc = .ok (.areturn, 1)) : W p l e R s m args below meth c H locs 0 0 (MQ below (qq w D cy A (r0.map G) S) args s 0 0 A) (F0 m pc ls [.ref (G a)]) := by
  cases hv
  exact W.aret hx hb hr (Or.inl ⟨_, rfl⟩) (Or.inr ⟨_, rfl⟩) (fun t ht hW => ⟨⟨some (G a), S, rfl, ⟨rfl, rfl⟩, by rw [ht]; exact hP, va_K.moved hW.alike hK⟩, hS.F ht⟩) hS.2.2 hdg hlocks
theorem e_qN {r0 : Option Nat} {C9 : String} (hx : p.tables.exec = Jvm.exec) (hb : c.code = cc) (hr : meth.sig.returnType = some (.object C9)) (hlocks : meth.locks = false) (hK : va_K D vwCl (ty3 cy) s) (hP : va_P D vwCl (w S) H) (hS : va_S A s.heap H locs) (hv : some none = some r0) (hdg : decode cc pc = .ok (.areturn, 1)) : W p l e R s m args below meth c H locs 0 0 (MQ below (qq w D cy A (r0.map G) S) args s 0 0 A) (F0 m pc ls [.null]) := by
  cases hv
  exact W.aret hx hb hr (Or.inl ⟨_, rfl⟩) (Or.inl rfl) (fun t ht hW => ⟨⟨none, S, rfl, ⟨rfl, rfl⟩, by rw [ht]; exact hP, va_K.moved hW.alike hK⟩, hS.F ht⟩) hS.2.2 hdg hlocks
end
