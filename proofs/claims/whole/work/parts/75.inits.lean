/-! constructors: rows that make cells, a world of one cell, the callee's cell last -/
theorem cy_I {D : va_G} {cy : Nat → ClassId} {cA : ClassId} {s : State} (h : va_K D vwCl (ty3 cy ++ [(cA, .int)]) s) : cA = cy 0 := Option.some.inj ((h.2 3 (cA, .int) rfl).2.symm.trans (h.2 0 (cy 0, .int) rfl).2)
theorem cy_L {D : va_G} {cy : Nat → ClassId} {cA : ClassId} {s : State} (h : va_K D vwCl (ty3 cy ++ [(cA, .long)]) s) : cA = cy 1 := Option.some.inj ((h.2 3 (cA, .long) rfl).2.symm.trans (h.2 1 (cy 1, .long) rfl).2)
theorem cy_V {D : va_G} {cy : Nat → ClassId} {cA : ClassId} {s : State} (h : va_K D vwCl (ty3 cy ++ [(cA, .object "LeftNumbers$Value")]) s) : cA = cy 2 := by
  obtain ⟨k1, c1, _, _, _, a4⟩ := (h.2 3 (cA, .object "LeftNumbers$Value") rfl).2
  obtain ⟨k2, c2, _, _, _, b4⟩ := (h.2 2 (cy 2, .object "LeftNumbers$Value") rfl).2
  exact Option.some.inj (a4.symm.trans b4)
theorem d1_self {e : Nat × va_E} {sz : Nat} : va_D (va_A [e] sz) [e] := by
  refine ⟨fun i j p q hi hj _ => ?_, fun k q hk => Or.inl ⟨k, q.2, hk⟩⟩
  have h1 := (List.getElem?_eq_some_iff.mp hi).1
  have h2 := (List.getElem?_eq_some_iff.mp hj).1
  simp only [List.length_cons, List.length_nil] at h1 h2
  omega
theorem wg_Dany {A : Nat → Prop} {N : Nat} {G : Nat → Nat} {f f' : Nat → va_E} (hD : va_D A (wg N G f)) : va_D A (wg N G f') := by
  refine ⟨fun i j p q hi hj e => ?_, fun k q hk => ?_⟩
  · obtain ⟨h1, rfl⟩ := wg_in hi
    obtain ⟨h2, rfl⟩ := wg_in hj
    exact hD.1 i j _ _ (wg_at h1) (wg_at h2) e
  · obtain ⟨h1, rfl⟩ := wg_in hk
    have h2 := hD.2 k (G k, f k) (wg_at h1)
    exact h2
theorem wg_gi {A : Nat → Prop} {N : Nat} {G : Nat → Nat} {f : Nat → va_E} (hD : va_D A (wg N G f)) : gi G N := fun i j hi hj e => hD.1 i j _ _ (wg_at hi) (wg_at hj) e
theorem wg_ag {A : Nat → Prop} {N : Nat} {G : Nat → Nat} {f : Nat → va_E} (hD : va_D A (wg N G f)) : ∀ q, ag N G q → A q := fun q h => by
  obtain ⟨i, hi, rfl⟩ := h
  exact hD.2 i _ (wg_at hi)
theorem nd_range : ∀ n, va_nd (List.range n) = true := by
  have key : ∀ l : List Nat, l.Nodup → va_nd l = true := by
    intro l h
    induction l with
    | nil => rfl
    | cons a t ih =>
      have := List.nodup_cons.mp h
      unfold va_nd
      rw [ih this.2, Bool.and_true]
      exact decide_eq_true this.1
  exact fun n => key _ List.nodup_range
theorem jn_last {A0 : Nat → Prop} {D : va_G} {ws w1 : va_W} {e : Nat × va_E} {H H1 : Heap} (hP : va_P D vwCl (ws ++ [e]) H) (hD : va_D A0 (ws ++ [e])) (hk : ∀ q : Nat, q < H.size → ¬ va_A [e] H.size q → H1[q]? = H[q]?) (hF : ∀ q, va_A [e] H.size q → A0 q) (hP1 : va_P D vwCl w1 H1) (hD1 : va_D (va_A [e] H.size) w1) : va_P D vwCl (ws ++ w1) H1 ∧ va_D A0 (ws ++ w1) := by
  refine va_join (wc := [e]) (wr := ws) hP hD [ws.length] (List.range ws.length) (by simp) ?_ (nd_range _) (fun i hi h => ?_) hk hF hP1 hD1
  · apply List.ext_getElem?
    intro i
    by_cases hi : i < ws.length
    · simp [hi, List.getElem?_append_left hi]
    · simp [hi]
  · have h1 := List.mem_range.mp hi
    have h2 := List.mem_singleton.mp h
    omega
theorem fr_last {A0 : Nat → Prop} {ws : va_W} {e : Nat × va_E} {H0 H : Heap} {locs : List Loc} (hD : va_D A0 (ws ++ [e])) (hS : va_S A0 H0 H locs) (hA : ∀ q, H0.size ≤ q → A0 q) : ∀ q, va_A [e] H.size q → A0 q := va_free (wc := [e]) hD hS hA [ws.length] (by simp)
theorem sub_last {D : va_G} {ws : va_W} {e : Nat × va_E} {H : Heap} (hP : va_P D vwCl (ws ++ [e]) H) : va_P D vwCl [e] H := hP.sub (ws' := [e]) [ws.length] (by simp)
section
variable {p : Program} {l : Launch} {e : Env} {R : Room} {s : State} {m : MethodId} {args : Array Value} {below : List Frame} {meth : Method} {c : Code} {H : Heap} {locs : List Loc} {cells slots : Nat} {Q : State → Prop} {cc : ByteArray} {pc : Nat} {ls : Array Slot} {rest : List Value}
variable {D : va_G} {cy : Nat → ClassId} {ws : va_W} {A : Nat → Prop}
theorem n_I (hx : p.tables.exec = Jvm.exec) (hb : c.code = cc) (harr : (Cond.arrayClass .int).before args s = true) (hK : va_K D vwCl (ty3 cy) s) (hP : va_P D vwCl ws H) (hD : va_D A ws) (hS : va_S A s.heap H locs) (hA : ∀ q, s.heap.size ≤ q → A q) {n : Int32} {N' : Nat} (hn : ¬ n < 0) (hN : n.toNatClampNeg = N') (h4 : N' ≤ 4000) (hcells : cells + 1 ≤ R.cells) (hslots : slots + N' ≤ R.slots) (hdg : decode cc pc = .ok (.newarray .int, 2))
    (kk : ∀ (q : Nat) (H1 : Heap), va_P D vwCl (ws ++ [(q, .inl (cy 0, N', .inl (fun _ => 0)))]) H1 → va_D A (ws ++ [(q, .inl (cy 0, N', .inl (fun _ => 0)))]) → va_S A s.heap H1 locs → W p l e R s m args below meth c H1 locs (cells + 1) (slots + N') Q (F0 m (pc + 2) ls (.ref q :: rest))) : W p l e R s m args below meth c H locs cells slots Q (F0 m pc ls (.int n :: rest)) :=
  va_newa (atype := .int) (ty := .int) (a0 := (N', .inl (fun _ => 0))) hx hb harr rfl hK hP hD hS hA (fun cA => rfl) hn hN (by show N' * 4 ≤ 536870912; omega) hcells hslots hdg (fun q cA H1 hK1 hP1 hD1 hS1 => by
    have e1 := cy_I hK1
    subst e1
    exact kk q H1 hP1 hD1 hS1)
theorem n_L (hx : p.tables.exec = Jvm.exec) (hb : c.code = cc) (harr : (Cond.arrayClass .long).before args s = true) (hK : va_K D vwCl (ty3 cy) s) (hP : va_P D vwCl ws H) (hD : va_D A ws) (hS : va_S A s.heap H locs) (hA : ∀ q, s.heap.size ≤ q → A q) {n : Int32} {N' : Nat} (hn : ¬ n < 0) (hN : n.toNatClampNeg = N') (h4 : N' ≤ 4000) (hcells : cells + 1 ≤ R.cells) (hslots : slots + N' ≤ R.slots) (hdg : decode cc pc = .ok (.newarray .long, 2))
    (kk : ∀ (q : Nat) (H1 : Heap), va_P D vwCl (ws ++ [(q, .inl (cy 1, N', .inr (.inl (fun _ => 0))))]) H1 → va_D A (ws ++ [(q, .inl (cy 1, N', .inr (.inl (fun _ => 0))))]) → va_S A s.heap H1 locs → W p l e R s m args below meth c H1 locs (cells + 1) (slots + N') Q (F0 m (pc + 2) ls (.ref q :: rest))) : W p l e R s m args below meth c H locs cells slots Q (F0 m pc ls (.int n :: rest)) :=
  va_newa (atype := .long) (ty := .long) (a0 := (N', .inr (.inl (fun _ => 0)))) hx hb harr rfl hK hP hD hS hA (fun cA => rfl) hn hN (by show N' * 8 ≤ 536870912; omega) hcells hslots hdg (fun q cA H1 hK1 hP1 hD1 hS1 => by
    have e1 := cy_L hK1
    subst e1
    exact kk q H1 hP1 hD1 hS1)
end

/-! choose, over the two cells that Figures has when it is made -/
def wf (cy : Nat → ClassId) (G : Nat → Nat) (S : St) : va_W := [(G 1, ec cy G S 1), (G 2, ec cy G S 2)]
abbrev af (G : Nat → Nat) : Nat → Prop := fun q => q = G 1 ∨ q = G 2
theorem wf_1 {cy : Nat → ClassId} {G : Nat → Nat} {S : St} : (wf cy G S)[0]? = some (G 1, .inr (1, [.ref (G 2), .int (S.1 1 1), .int (S.1 1 2)])) := rfl
theorem wf_2 {cy : Nat → ClassId} {G : Nat → Nat} {S : St} : (wf cy G S)[1]? = some (G 2, .inl (cy 1, 60, .inr (.inl (S.2 2)))) := rfl
theorem wf_in {cy : Nat → ClassId} {G : Nat → Nat} {S : St} {k : Nat} {q : Nat × va_E} (h : (wf cy G S)[k]? = some q) : (k = 0 ∧ q = (G 1, ec cy G S 1)) ∨ (k = 1 ∧ q = (G 2, ec cy G S 2)) := by
  match k, h with
  | 0, h => exact Or.inl ⟨rfl, (Option.some.inj h).symm⟩
  | 1, h => exact Or.inr ⟨rfl, (Option.some.inj h).symm⟩
  | (n + 2), h => simp [wf] at h
theorem wf_D {cy : Nat → ClassId} {G : Nat → Nat} {S : St} (hG : G 1 ≠ G 2) : va_D (af G) (wf cy G S) := by
  refine ⟨fun i j p q hi hj e => ?_, fun k q hk => ?_⟩
  · rcases wf_in hi with ⟨rfl, rfl⟩ | ⟨rfl, rfl⟩ <;> rcases wf_in hj with ⟨rfl, rfl⟩ | ⟨rfl, rfl⟩
    · rfl
    · exact absurd e hG
    · exact absurd e.symm hG
    · rfl
  · rcases wf_in hk with ⟨rfl, rfl⟩ | ⟨rfl, rfl⟩
    · exact Or.inl rfl
    · exact Or.inr rfl
section
variable {p : Program} {l : Launch} {e : Env} {R : Room} {s : State} {m : MethodId} {args : Array Value} {below : List Frame} {meth : Method} {c : Code} {H : Heap} {locs : List Loc} {cells slots : Nat} {Q : State → Prop} {cc : ByteArray} {pc : Nat} {ls : Array Slot} {rest : List Value}
variable {D : va_G} {cy : Nat → ClassId} {S : St} {G : Nat → Nat} {r index : Nat} {own : String} {Ts : List Cond}
theorem p_fFI {v : Int32} (hG : G 1 ≠ G 2) (hx : p.tables.exec = Jvm.exec) (hb : c.code = cc) (hts : ∀ w ∈ Ts, w.before args s = true) (hin : ∀ w ∈ wsX10, w ∈ Ts) (hown : s.vm.findClass own = some m.cls) (hK : va_K D vwCl (ty3 cy) s) (hP : va_P D vwCl (wf cy G S) H) (hS : va_S (af G) s.heap H locs) (k : Nat) (hk : k = 1 ∨ k = 2) (hlink : (Cond.fieldLink own index "LeftNumbers$Figures" (TX1 k).2.1 (TX1 k).2.2.1).before args s = true) (hdg : decode cc pc = .ok (.putfield index, 3))
    (kk : ∀ (H1 : Heap) (locs1 : List Loc), va_P D vwCl (wf cy G (st_I S 1 k v)) H1 → va_S (af G) s.heap H1 locs1 → W p l e R s m args below meth c H1 locs1 cells slots Q (F0 m (pc + 3) ls rest)) : W p l e R s m args below meth c H locs cells slots Q (F0 m pc ls (.int v :: .ref (G 1) :: rest)) := by
  have key : ∀ k2, k2 = k → (wf cy G S).set 0 (G 1, .inr (1, ([.ref (G 2), .int (S.1 1 1), .int (S.1 1 2)] : List Value).set k2 (.int v))) = wf cy G (st_I S 1 k2 v) := by
    intro k2 e2
    rcases hk with q | q <;> (rw [q] at e2; subst e2; rfl)
  rcases hk with q | q <;> subst q <;>
  exact va_put (D := D) (ci := 1) (v := .int v) (ty := .int) (C := RX1) (T := TX1) (N := 3) hx hb hts hin tyX1 tyX1_ok nmX1 hown hK hP (wf_D hG) hS 0 wf_1 rfl _ (by decide) hlink (fun _ h9 => h9) rfl (by decide +kernel) rfl rfl (Nat.le_of_ble_eq_true rfl) hdg (fun H1 locs1 hP1 _ hS1 => kk H1 locs1 (by rw [key _ rfl] at hP1; exact hP1) hS1)
theorem a_fL {i : Int32} {v : Int64} (hG : G 1 ≠ G 2) (hx : p.tables.exec = Jvm.exec) (hb : c.code = cc) (hK : va_K D vwCl (ty3 cy) s) (hP : va_P D vwCl (wf cy G S) H) (hS : va_S (af G) s.heap H locs) (_h : kc 2 = 6) (hi : ¬ oob i 60) (hdg : decode cc pc = .ok (.lastore, 1))
    (kk : ∀ (H1 : Heap) (locs1 : List Loc), va_P D vwCl (wf cy G (st_L S 2 i.toNatClampNeg v)) H1 → va_S (af G) s.heap H1 locs1 → W p l e R s m args below meth c H1 locs1 cells slots Q (F0 m (pc + 1) ls rest)) : W p l e R s m args below meth c H locs cells slots Q (F0 m pc ls (.long v :: .int i :: .ref (G 2) :: rest)) := by
  have key : (wf cy G S).set 1 (G 2, .inl (cy 1, 60, .inr (.inl (vp_updL (S.2 2) i.toNatClampNeg v)))) = wf cy G (st_L S 2 i.toNatClampNeg v) := by
    rw [← st_Lupd]
    rfl
  exact va_last hx hb hK hP (wf_D hG) hS 1 1 wf_2 rfl hi hdg (fun H1 locs1 hP1 _ hS1 => kk H1 locs1 (by rw [key] at hP1; exact hP1) hS1)
end

set_option maxRecDepth 100000 in
set_option maxHeartbeats 4000000 in
theorem bf_choose_25 {p : Program} {l : Launch} {e : Env} {s : State} {m : MethodId} {args : Array Value} {below : List Frame} {meth : Method} {c : Code} {D : va_G} {cy : Nat → ClassId} {G : Nat → Nat} (hG : G 1 ≠ G 2) (C : cx p s m args meth c cX1_choose 3 none RX1 wA D cy) {S0 : St} : ∀ n : Nat, ∀ (S : St) (x1 : Int32) (x2 : Int32) (H : Heap) (locs : List Loc) (ls : Array Slot), va_P D vwCl (wf cy G S) H → va_S (af G) s.heap H locs → lv_has ls 3 [(0, .ref (G 1)), (1, .int x1), (2, .int x2)] → (m_X1_choose_25 n) S x1 x2 = some S0 → W p l e { frames := 0, cells := 0, slots := 0, locals := 0 } s m args below meth c H locs 0 0 (MQ below (qv (wf cy G) D cy (af G) S0) args s 0 0 (af G)) (F0 m 25 ls []) := by
  obtain ⟨⟨hx, hb, hml, hown, hts⟩, hr, hlocks, hK⟩ := id C
  intro n
  induction n with
  | zero =>
    intro S x1 x2 H locs ls hP hS hl hm
    exact absurd hm (by unfold m_X1_choose_25; exact fun h => by cases h)
  | succ n ih =>
    intro S x1 x2 H locs ls hP hS hl hm
    unfold m_X1_choose_25 at hm
    refine lv_iload_n hx hb dX1_choose_25 rfl (lv_at hl 2 rfl) ?_
    refine lv_aload_n hx hb dX1_choose_26 rfl (lv_at hl 0 rfl) ?_
    refine va_get (D := D) (ci := 1) (v := .ref (G 2)) (C := RX1) (T := TX1) (N := 3) hx hb hts inA_X1 hown hK hP 0 wf_1 rfl 0 (by decide) (hts _ tw_27) (fun _ h9 => h9) rfl dX1_choose_27 ?_
    refine va_alen (v := 60) (ty := .long) hx hb hK hP 1 1 wf_2 rfl rfl dX1_choose_30 ?_
    refine lv_icmp_ge (tgt := 80) hx hb dX1_choose_31 (by decide) (fun c_1 => ?_) (fun c_1 => ?_)
    · have hm := ho_t c_1 hm
      exact e_v hx hb hr hlocks hK hP hS hm dX1_choose_80
    · have hm := ho_f c_1 hm
      refine lv_aload_n hx hb dX1_choose_34 rfl (lv_at hl 0 rfl) ?_
      refine va_get (D := D) (ci := 1) (v := .ref (G 2)) (C := RX1) (T := TX1) (N := 3) hx hb hts inA_X1 hown hK hP 0 wf_1 rfl 0 (by decide) (hts _ tw_27) (fun _ h9 => h9) rfl dX1_choose_35 ?_
      refine lv_iload_n hx hb dX1_choose_38 rfl (lv_at hl 2 rfl) ?_
      refine lv_iconst (v := 1) hx hb dX1_choose_39 (by decide) ?_
      refine lv_isub hx hb dX1_choose_40 ?_
      obtain ⟨h_2, hm⟩ := ho_n hm
      refine va_lald hx hb hK hP 1 1 wf_2 rfl h_2 dX1_choose_41 ?_
      refine lv_ldc2 (v := 1000000000000000000) hx hb hown (hts _ tw_26) dX1_choose_42 ?_
      refine r_pc (pc2 := 45) rfl ?_
      refine lv_iload_n hx hb dX1_choose_45 rfl (lv_at hl 1 rfl) ?_
      refine lv_i2l (v := x1.toInt64) hx hb dX1_choose_46 rfl ?_
      obtain ⟨h_3, hm⟩ := ho_n hm
      refine lv_ldiv hx hb dX1_choose_47 h_3 ?_
      refine r_lgt (tgt := 80) hx hb dX1_choose_48 dX1_choose_49 (by decide) (fun c_4 => ?_) (fun c_4 => ?_)
      · have hm := ho_t c_4 hm
        exact e_v hx hb hr hlocks hK hP hS hm dX1_choose_80
      · have hm := ho_f c_4 hm
        refine lv_aload_n hx hb dX1_choose_52 rfl (lv_at hl 0 rfl) ?_
        refine va_get (D := D) (ci := 1) (v := .ref (G 2)) (C := RX1) (T := TX1) (N := 3) hx hb hts inA_X1 hown hK hP 0 wf_1 rfl 0 (by decide) (hts _ tw_27) (fun _ h9 => h9) rfl dX1_choose_53 ?_
        refine lv_iload_n hx hb dX1_choose_56 rfl (lv_at hl 2 rfl) ?_
        refine lv_aload_n hx hb dX1_choose_57 rfl (lv_at hl 0 rfl) ?_
        refine va_get (D := D) (ci := 1) (v := .ref (G 2)) (C := RX1) (T := TX1) (N := 3) hx hb hts inA_X1 hown hK hP 0 wf_1 rfl 0 (by decide) (hts _ tw_27) (fun _ h9 => h9) rfl dX1_choose_58 ?_
        refine lv_iload_n hx hb dX1_choose_61 rfl (lv_at hl 2 rfl) ?_
        refine lv_iconst (v := 1) hx hb dX1_choose_62 (by decide) ?_
        refine r_pc (pc2 := 63) rfl ?_
        refine lv_isub hx hb dX1_choose_63 ?_
        obtain ⟨h_5, hm⟩ := ho_n hm
        refine va_lald hx hb hK hP 1 1 wf_2 rfl h_5 dX1_choose_64 ?_
        refine lv_iload_n hx hb dX1_choose_65 rfl (lv_at hl 1 rfl) ?_
        refine lv_i2l (v := x1.toInt64) hx hb dX1_choose_66 rfl ?_
        refine lv_lmul hx hb dX1_choose_67 ?_
        obtain ⟨h_6, hm⟩ := ho_n hm
        refine a_fL hG hx hb hK hP hS (by decide) h_6 dX1_choose_68 (fun H locs hP hS => ?_)
        refine lv_aload_n hx hb dX1_choose_69 rfl (lv_at hl 0 rfl) ?_
        refine lv_iload_n hx hb dX1_choose_70 rfl (lv_at hl 2 rfl) ?_
        refine r_pc (pc2 := 71) rfl ?_
        refine p_fFI hG hx hb hts inA_X1 hown hK hP hS 2 (by decide) (hts _ tw_30) dX1_choose_71 (fun H locs hP hS => ?_)
        refine lv_iinc (v := (x2 + 1)) (lv' := [(2, .int (x2 + 1)), (0, .ref (G 1)), (1, .int x1)]) hx hb dX1_choose_74 hl (k := 2) rfl rfl (by decide) rfl (fun ls hl => ?_)
        refine lv_goto (tgt := 25) hx hb dX1_choose_77 (by decide) ?_
        exact ih _ _ _ _ _ _ hP hS (lv_sub hl [1, 2, 0] rfl) hm
set_option maxRecDepth 100000 in
set_option maxHeartbeats 4000000 in
theorem cf_X1_choose (l : Launch) (D : va_G) (cy : Nat → ClassId) (G : Nat → Nat) (hG : G 1 ≠ G 2) (S : St) (x1 : Int32) {S0 : St} (hm : m_X1_choose S x1 = some S0) : Met l yX1_choose wz_X1_choose ({ frames := 0, cells := 0, slots := 0, locals := 0 }) (va_Pc [.ref (G 1), .int x1] (pw (wf cy G) D cy S)) (qv (wf cy G) D cy (af G) S0) 0 0 (af G) := by
  refine Met.ofW (cc := cX1_choose) (maxL := 3) (ret := none) (by decide +kernel) rfl ?_
  intro p e s m args below meth c s₁ B hml hv
  obtain ⟨rfl, hP, hK⟩ := hv
  have hx := B.exec
  have hb := B.bytes
  have hr := B.returns
  have hts0 := atoms_spec (ws := wz_X1_choose) B.pre
  have hts : ∀ w ∈ wA, w.before _ s = true := fun w h => hts0 w (List.mem_cons_of_mem _ h)
  have hown : s.vm.findClass RX1 = some m.cls := findClass_of_methodNamed B.named
  have hlocks := B.notSynchronized
  have C : cx p s m _ meth c cX1_choose 3 none RX1 wA D cy := ⟨⟨hx, hb, hml, hown, hts⟩, hr, hlocks, hK⟩
  have hS : va_S (af G) s.heap s.heap [] := va_S.rf
  have hl := lv_entry ([.ref (G 1), .int x1]) (n := 3) (Nat.le_of_ble_eq_true rfl)
  rw [lg_entry_eq]
  generalize (lg_sl ([.ref (G 1), .int x1]) ++ List.replicate (3 - (lg_sl ([.ref (G 1), .int x1])).length) Slot.unset).toArray = ls at hl ⊢
  have hl : lv_has ls 3 [(0, .ref (G 1)), (1, .int x1)] := hl
  unfold m_X1_choose at hm
  refine lv_iload_n hx hb dX1_choose_0 rfl (lv_at hl 1 rfl) ?_
  refine lv_iconst (v := 2) hx hb dX1_choose_1 (by decide) ?_
  refine lv_icmp_ge (tgt := 6) hx hb dX1_choose_2 (by decide) (fun c_1 => ?_) (fun c_1 => ?_)
  · have hm := ho_t c_1 hm
    refine lv_aload_n hx hb dX1_choose_6 rfl (lv_at hl 0 rfl) ?_
    refine lv_iload_n hx hb dX1_choose_7 rfl (lv_at hl 1 rfl) ?_
    refine p_fFI hG hx hb hts inA_X1 hown hK hP hS 1 (by decide) (hts _ tw_28) dX1_choose_8 (fun H locs hP hS => ?_)
    refine lv_aload_n hx hb dX1_choose_11 rfl (lv_at hl 0 rfl) ?_
    refine lv_iconst (v := 0) hx hb dX1_choose_12 (by decide) ?_
    refine p_fFI hG hx hb hts inA_X1 hown hK hP hS 2 (by decide) (hts _ tw_30) dX1_choose_13 (fun H locs hP hS => ?_)
    refine lv_aload_n hx hb dX1_choose_16 rfl (lv_at hl 0 rfl) ?_
    refine r_pc (pc2 := 17) rfl ?_
    refine va_get (D := D) (ci := 1) (v := .ref (G 2)) (C := RX1) (T := TX1) (N := 3) hx hb hts inA_X1 hown hK hP 0 wf_1 rfl 0 (by decide) (hts _ tw_27) (fun _ h9 => h9) rfl dX1_choose_17 ?_
    refine lv_iconst (v := 0) hx hb dX1_choose_20 (by decide) ?_
    refine lv_lconst (v := 1) hx hb dX1_choose_21 (by decide) ?_
    obtain ⟨h_2, hm⟩ := ho_n hm
    refine a_fL hG hx hb hK hP hS (by decide) h_2 dX1_choose_22 (fun H locs hP hS => ?_)
    refine lv_iconst (v := 1) hx hb dX1_choose_23 (by decide) ?_
    refine lv_istore_n (lv' := [(2, .int (1 : Int32)), (0, .ref (G 1)), (1, .int x1)]) hx hb dX1_choose_24 rfl hl (by decide) rfl (fun ls hl => ?_)
    exact bf_choose_25 hG C fu _ _ _ _ _ _ hP hS (lv_sub hl [1, 2, 0] rfl) hm
  · have hm := ho_f c_1 hm
    exact e_v hx hb hr hlocks hK hP hS hm dX1_choose_5
theorem dX2_init_0 : decode cX2_init 0 = .ok (.aload_n 0, 1) := by decide +kernel
theorem dX2_init_1 : decode cX2_init 1 = .ok (.invokespecial 3, 3) := by decide +kernel
theorem dX2_init_4 : decode cX2_init 4 = .ok (.aload_n 0, 1) := by decide +kernel
theorem dX2_init_5 : decode cX2_init 5 = .ok (.bipush 8, 2) := by decide +kernel
theorem dX2_init_7 : decode cX2_init 7 = .ok (.newarray .int, 2) := by decide +kernel
theorem dX2_init_9 : decode cX2_init 9 = .ok (.putfield 9, 3) := by decide +kernel
theorem dX2_init_12 : decode cX2_init 12 = .ok (.aload_n 0, 1) := by decide +kernel
theorem dX2_init_13 : decode cX2_init 13 = .ok (.iconst 0, 1) := by decide +kernel
theorem dX2_init_14 : decode cX2_init 14 = .ok (.putfield 15, 3) := by decide +kernel
theorem dX2_init_17 : decode cX2_init 17 = .ok (.aload_n 0, 1) := by decide +kernel
theorem dX2_init_18 : decode cX2_init 18 = .ok (.iconst 0, 1) := by decide +kernel
theorem dX2_init_19 : decode cX2_init 19 = .ok (.putfield 19, 3) := by decide +kernel
theorem dX2_init_22 : decode cX2_init 22 = .ok (.aload_n 0, 1) := by decide +kernel
theorem dX2_init_23 : decode cX2_init 23 = .ok (.iconst 0, 1) := by decide +kernel
theorem dX2_init_24 : decode cX2_init 24 = .ok (.putfield 22, 3) := by decide +kernel
theorem dX2_init_27 : decode cX2_init 27 = .ok (.aload_n 0, 1) := by decide +kernel
theorem dX2_init_28 : decode cX2_init 28 = .ok (.lconst 0, 1) := by decide +kernel
theorem dX2_init_29 : decode cX2_init 29 = .ok (.putfield 25, 3) := by decide +kernel
theorem dX2_init_32 : decode cX2_init 32 = .ok (.aload_n 0, 1) := by decide +kernel
theorem dX2_init_33 : decode cX2_init 33 = .ok (.iconst 0, 1) := by decide +kernel
theorem dX2_init_34 : decode cX2_init 34 = .ok (.putfield 29, 3) := by decide +kernel
theorem dX2_init_37 : decode cX2_init 37 = .ok (.aload_n 0, 1) := by decide +kernel
theorem dX2_init_38 : decode cX2_init 38 = .ok (.iconst 1, 1) := by decide +kernel
theorem dX2_init_39 : decode cX2_init 39 = .ok (.putfield 32, 3) := by decide +kernel
theorem dX2_init_42 : decode cX2_init 42 = .ok (.aload_n 0, 1) := by decide +kernel
theorem dX2_init_43 : decode cX2_init 43 = .ok (.iconst 0, 1) := by decide +kernel
theorem dX2_init_44 : decode cX2_init 44 = .ok (.putfield 35, 3) := by decide +kernel
theorem dX2_init_47 : decode cX2_init 47 = .ok (.return_, 1) := by decide +kernel
abbrev wz_X2_init : List Cond := .code yX2_init cX2_init 1 none :: wA
theorem hd_X2_init : (yX2_init).cls ≠ "java/lang/invoke/MethodHandle" ∧ (yX2_init).cls ≠ "java/lang/invoke/VarHandle" ∧ (parseMethodDescriptor (yX2_init).desc).map (fun d => d.parameters.length) = some 0 := by decide +kernel
abbrev v0 (qp : Nat) : va_E := .inr (2, [.ref qp, .int 0, .int 0, .int 0, .long 0, .int 0, .int 1, .int 0])
abbrev a8 (cy : Nat → ClassId) : va_E := .inl (cy 0, 8, .inl (fun _ => 0))
set_option maxRecDepth 100000 in
set_option maxHeartbeats 4000000 in
theorem c_X2_init (l : Launch) (D : va_G) (cy : Nat → ClassId) (h0 sz : Nat) (e0 : Nat × va_E) (he0 : e0 = (h0, .inr (2, [.null, .int 0, .int 0, .int 0, .long 0, .int 0, .int 0, .int 0]))) : Met l yX2_init wz_X2_init ({ frames := 1, cells := 1, slots := 8, locals := 12 }) (va_Pc [.ref h0] (fun U => U.heap.size = sz ∧ va_P D vwCl [e0] U.heap ∧ va_K D vwCl (ty3 cy) U)) (va_Qv (fun _ : Nat => True) (fun qp t => va_P D vwCl [(h0, v0 qp), (qp, a8 cy)] t.heap ∧ va_K D vwCl (ty3 cy) t ∧ va_D (va_A [e0] sz) [(h0, v0 qp), (qp, a8 cy)]) (va_A [e0] sz)) 1 8 (va_A [e0] sz) := by
  refine Met.ofW (cc := cX2_init) (maxL := 1) (ret := none) (by decide +kernel) rfl ?_
  intro p e s m args below meth c s₁ B hml hv
  obtain ⟨rfl, hsz, hP, hK⟩ := hv
  have hx := B.exec
  have hb := B.bytes
  have hr := B.returns
  have hts0 := atoms_spec (ws := wz_X2_init) B.pre
  have hts : ∀ w ∈ wA, w.before _ s = true := fun w h => hts0 w (List.mem_cons_of_mem _ h)
  have hown : s.vm.findClass RX2 = some m.cls := findClass_of_methodNamed B.named
  have hlocks := B.notSynchronized
  have hin : meth.name = "<init>" := (name_of_methodNamed B.named B.method).1
  subst hsz
  have hD : va_D (va_A [e0] s.heap.size) [e0] := d1_self
  have hA : ∀ q : Nat, s.heap.size ≤ q → va_A [e0] s.heap.size q := fun q h => Or.inr h
  generalize hAe : va_A [e0] s.heap.size = A at hD hA ⊢
  have hS : va_S A s.heap s.heap [] := va_S.rf
  have hl := lv_entry ([.ref h0]) (n := 1) (Nat.le_of_ble_eq_true rfl)
  rw [lg_entry_eq]
  generalize (lg_sl ([.ref h0]) ++ List.replicate (1 - (lg_sl ([.ref h0])).length) Slot.unset).toArray = ls at hl ⊢
  have hl : lv_has ls 1 [(0, .ref h0)] := hl
  rw [he0] at hP hD
  have hP : va_P D vwCl [(h0, .inr (2, [.null, .int 0, .int 0, .int 0, .long 0, .int 0, .int 0, .int 0]))] s.heap := hP
  refine lv_aload_n hx hb dX2_init_0 rfl (lv_at hl 0 rfl) ?_
  refine W.objInit hx hb hown (hts _ tw_57) (hts _ tw_14) (hts _ tw_15) rfl (by rw [hml]; exact hl.1) rfl dX2_init_1 (Nat.le_of_ble_eq_true rfl) (Nat.le_of_ble_eq_true rfl) ?_
  refine W.eq (g2 := F0 m 4 ls []) rfl ?_
  refine lv_aload_n hx hb dX2_init_4 rfl (lv_at hl 0 rfl) ?_
  refine lv_bipush (v := 8) hx hb dX2_init_5 (by decide) ?_
  refine n_I (n := 8) (N' := 8) hx hb (hts _ tw_97) hK hP hD hS hA (by decide) (by decide) (by decide) (by decide) (by decide) dX2_init_7 (fun q7 H hP hD hS => ?_)
  have hP : va_P D vwCl [(h0, .inr (2, [.null, .int 0, .int 0, .int 0, .long 0, .int 0, .int 0, .int 0])), (q7, .inl (cy 0, 8, .inl (fun _ => 0)))] H := hP
  have hD : va_D A [(h0, .inr (2, [.null, .int 0, .int 0, .int 0, .long 0, .int 0, .int 0, .int 0])), (q7, .inl (cy 0, 8, .inl (fun _ => 0)))] := hD
  refine W.widen (k := 1) (n := 8) (by decide) (by decide) ?_
  refine va_putF (D := D) (ci := 2) (v := .ref q7) (ty := .array .int) (C := RX2) (T := TX2) (N := 8) hx hb hts inA_X2 tyX2 tyX2_ok nmX2 hown hK hP hD hS 0 rfl rfl 0 (by decide) (hts _ tw_58) (fun _ h9 => h9) rfl hin rfl (by decide +kernel) rfl rfl (Nat.le_of_ble_eq_true rfl) dX2_init_9 (fun H locs hP hD hS => ?_)
  have hP : va_P D vwCl [(h0, .inr (2, [.ref q7, .int 0, .int 0, .int 0, .long 0, .int 0, .int 0, .int 0])), (q7, .inl (cy 0, 8, .inl (fun _ => 0)))] H := hP
  have hD : va_D A [(h0, .inr (2, [.ref q7, .int 0, .int 0, .int 0, .long 0, .int 0, .int 0, .int 0])), (q7, .inl (cy 0, 8, .inl (fun _ => 0)))] := hD
  refine lv_aload_n hx hb dX2_init_12 rfl (lv_at hl 0 rfl) ?_
  refine lv_iconst (v := 0) hx hb dX2_init_13 (by decide) ?_
  refine va_put (D := D) (ci := 2) (v := .int 0) (ty := .int) (C := RX2) (T := TX2) (N := 8) hx hb hts inA_X2 tyX2 tyX2_ok nmX2 hown hK hP hD hS 0 rfl rfl 1 (by decide) (hts _ tw_60) (fun _ h9 => h9) rfl (by decide +kernel) rfl rfl (Nat.le_of_ble_eq_true rfl) dX2_init_14 (fun H locs hP hD hS => ?_)
  have hP : va_P D vwCl [(h0, .inr (2, [.ref q7, .int 0, .int 0, .int 0, .long 0, .int 0, .int 0, .int 0])), (q7, .inl (cy 0, 8, .inl (fun _ => 0)))] H := hP
  have hD : va_D A [(h0, .inr (2, [.ref q7, .int 0, .int 0, .int 0, .long 0, .int 0, .int 0, .int 0])), (q7, .inl (cy 0, 8, .inl (fun _ => 0)))] := hD
  refine lv_aload_n hx hb dX2_init_17 rfl (lv_at hl 0 rfl) ?_
  refine lv_iconst (v := 0) hx hb dX2_init_18 (by decide) ?_
  refine va_put (D := D) (ci := 2) (v := .int 0) (ty := .int) (C := RX2) (T := TX2) (N := 8) hx hb hts inA_X2 tyX2 tyX2_ok nmX2 hown hK hP hD hS 0 rfl rfl 2 (by decide) (hts _ tw_63) (fun _ h9 => h9) rfl (by decide +kernel) rfl rfl (Nat.le_of_ble_eq_true rfl) dX2_init_19 (fun H locs hP hD hS => ?_)
  have hP : va_P D vwCl [(h0, .inr (2, [.ref q7, .int 0, .int 0, .int 0, .long 0, .int 0, .int 0, .int 0])), (q7, .inl (cy 0, 8, .inl (fun _ => 0)))] H := hP
  have hD : va_D A [(h0, .inr (2, [.ref q7, .int 0, .int 0, .int 0, .long 0, .int 0, .int 0, .int 0])), (q7, .inl (cy 0, 8, .inl (fun _ => 0)))] := hD
  refine lv_aload_n hx hb dX2_init_22 rfl (lv_at hl 0 rfl) ?_
  refine lv_iconst (v := 0) hx hb dX2_init_23 (by decide) ?_
  refine va_put (D := D) (ci := 2) (v := .int 0) (ty := .int) (C := RX2) (T := TX2) (N := 8) hx hb hts inA_X2 tyX2 tyX2_ok nmX2 hown hK hP hD hS 0 rfl rfl 3 (by decide) (hts _ tw_66) (fun _ h9 => h9) rfl (by decide +kernel) rfl rfl (Nat.le_of_ble_eq_true rfl) dX2_init_24 (fun H locs hP hD hS => ?_)
  have hP : va_P D vwCl [(h0, .inr (2, [.ref q7, .int 0, .int 0, .int 0, .long 0, .int 0, .int 0, .int 0])), (q7, .inl (cy 0, 8, .inl (fun _ => 0)))] H := hP
  have hD : va_D A [(h0, .inr (2, [.ref q7, .int 0, .int 0, .int 0, .long 0, .int 0, .int 0, .int 0])), (q7, .inl (cy 0, 8, .inl (fun _ => 0)))] := hD
  refine lv_aload_n hx hb dX2_init_27 rfl (lv_at hl 0 rfl) ?_
  refine lv_lconst (v := 0) hx hb dX2_init_28 (by decide) ?_
  refine va_put (D := D) (ci := 2) (v := .long 0) (ty := .long) (C := RX2) (T := TX2) (N := 8) hx hb hts inA_X2 tyX2 tyX2_ok nmX2 hown hK hP hD hS 0 rfl rfl 4 (by decide) (hts _ tw_69) (fun _ h9 => h9) rfl (by decide +kernel) rfl rfl (Nat.le_of_ble_eq_true rfl) dX2_init_29 (fun H locs hP hD hS => ?_)
  have hP : va_P D vwCl [(h0, .inr (2, [.ref q7, .int 0, .int 0, .int 0, .long 0, .int 0, .int 0, .int 0])), (q7, .inl (cy 0, 8, .inl (fun _ => 0)))] H := hP
  have hD : va_D A [(h0, .inr (2, [.ref q7, .int 0, .int 0, .int 0, .long 0, .int 0, .int 0, .int 0])), (q7, .inl (cy 0, 8, .inl (fun _ => 0)))] := hD
  refine lv_aload_n hx hb dX2_init_32 rfl (lv_at hl 0 rfl) ?_
  refine lv_iconst (v := 0) hx hb dX2_init_33 (by decide) ?_
  refine va_put (D := D) (ci := 2) (v := .int 0) (ty := .int) (C := RX2) (T := TX2) (N := 8) hx hb hts inA_X2 tyX2 tyX2_ok nmX2 hown hK hP hD hS 0 rfl rfl 5 (by decide) (hts _ tw_72) (fun _ h9 => h9) rfl (by decide +kernel) rfl rfl (Nat.le_of_ble_eq_true rfl) dX2_init_34 (fun H locs hP hD hS => ?_)
  have hP : va_P D vwCl [(h0, .inr (2, [.ref q7, .int 0, .int 0, .int 0, .long 0, .int 0, .int 0, .int 0])), (q7, .inl (cy 0, 8, .inl (fun _ => 0)))] H := hP
  have hD : va_D A [(h0, .inr (2, [.ref q7, .int 0, .int 0, .int 0, .long 0, .int 0, .int 0, .int 0])), (q7, .inl (cy 0, 8, .inl (fun _ => 0)))] := hD
  refine lv_aload_n hx hb dX2_init_37 rfl (lv_at hl 0 rfl) ?_
  refine lv_iconst (v := 1) hx hb dX2_init_38 (by decide) ?_
  refine va_put (D := D) (ci := 2) (v := .int 1) (ty := .int) (C := RX2) (T := TX2) (N := 8) hx hb hts inA_X2 tyX2 tyX2_ok nmX2 hown hK hP hD hS 0 rfl rfl 6 (by decide) (hts _ tw_75) (fun _ h9 => h9) rfl (by decide +kernel) rfl rfl (Nat.le_of_ble_eq_true rfl) dX2_init_39 (fun H locs hP hD hS => ?_)
  have hP : va_P D vwCl [(h0, .inr (2, [.ref q7, .int 0, .int 0, .int 0, .long 0, .int 0, .int 1, .int 0])), (q7, .inl (cy 0, 8, .inl (fun _ => 0)))] H := hP
  have hD : va_D A [(h0, .inr (2, [.ref q7, .int 0, .int 0, .int 0, .long 0, .int 0, .int 1, .int 0])), (q7, .inl (cy 0, 8, .inl (fun _ => 0)))] := hD
  refine lv_aload_n hx hb dX2_init_42 rfl (lv_at hl 0 rfl) ?_
  refine lv_iconst (v := 0) hx hb dX2_init_43 (by decide) ?_
  refine va_put (D := D) (ci := 2) (v := .int 0) (ty := .int) (C := RX2) (T := TX2) (N := 8) hx hb hts inA_X2 tyX2 tyX2_ok nmX2 hown hK hP hD hS 0 rfl rfl 7 (by decide) (hts _ tw_78) (fun _ h9 => h9) rfl (by decide +kernel) rfl rfl (Nat.le_of_ble_eq_true rfl) dX2_init_44 (fun H locs hP hD hS => ?_)
  have hP : va_P D vwCl [(h0, .inr (2, [.ref q7, .int 0, .int 0, .int 0, .long 0, .int 0, .int 1, .int 0])), (q7, .inl (cy 0, 8, .inl (fun _ => 0)))] H := hP
  have hD : va_D A [(h0, .inr (2, [.ref q7, .int 0, .int 0, .int 0, .long 0, .int 0, .int 1, .int 0])), (q7, .inl (cy 0, 8, .inl (fun _ => 0)))] := hD
  exact W.vret hx hb hr (fun t ht hW => ⟨⟨q7, rfl, trivial, by rw [ht]; exact hP, va_K.moved hW.alike hK, hD⟩, hS.F ht⟩) hS.2.2 dX2_init_47 hlocks
theorem dX0_init_0 : decode cX0_init 0 = .ok (.aload_n 0, 1) := by decide +kernel
theorem dX0_init_1 : decode cX0_init 1 = .ok (.invokespecial 3, 3) := by decide +kernel
theorem dX0_init_4 : decode cX0_init 4 = .ok (.aload_n 0, 1) := by decide +kernel
theorem dX0_init_5 : decode cX0_init 5 = .ok (.aload_n 1, 1) := by decide +kernel
theorem dX0_init_6 : decode cX0_init 6 = .ok (.putfield 9, 3) := by decide +kernel
theorem dX0_init_9 : decode cX0_init 9 = .ok (.return_, 1) := by decide +kernel
abbrev wz_X0_init : List Cond := .code yX0_init cX0_init 2 none :: wA
theorem hd_X0_init : (yX0_init).cls ≠ "java/lang/invoke/MethodHandle" ∧ (yX0_init).cls ≠ "java/lang/invoke/VarHandle" ∧ (parseMethodDescriptor (yX0_init).desc).map (fun d => d.parameters.length) = some 1 := by decide +kernel
set_option maxRecDepth 100000 in
set_option maxHeartbeats 4000000 in
theorem c_X0_init (l : Launch) (D : va_G) (cy : Nat → ClassId) (h0 f0 sz : Nat) (e0 : Nat × va_E) (he0 : e0 = (h0, .inr (0, [.null]))) : Met l yX0_init wz_X0_init ({ frames := 1, cells := 0, slots := 0, locals := 12 }) (va_Pc [.ref h0, .ref f0] (fun U => U.heap.size = sz ∧ va_P D vwCl [e0] U.heap ∧ va_K D vwCl (ty3 cy) U)) (va_Qv (fun _ : Unit => True) (fun _ t => va_P D vwCl [(h0, .inr (0, [.ref f0]))] t.heap ∧ va_K D vwCl (ty3 cy) t ∧ va_D (va_A [e0] sz) [(h0, .inr (0, [.ref f0]))]) (va_A [e0] sz)) 0 0 (va_A [e0] sz) := by
  refine Met.ofW (cc := cX0_init) (maxL := 2) (ret := none) (by decide +kernel) rfl ?_
  intro p e s m args below meth c s₁ B hml hv
  obtain ⟨rfl, hsz, hP, hK⟩ := hv
  have hx := B.exec
  have hb := B.bytes
  have hr := B.returns
  have hts0 := atoms_spec (ws := wz_X0_init) B.pre
  have hts : ∀ w ∈ wA, w.before _ s = true := fun w h => hts0 w (List.mem_cons_of_mem _ h)
  have hown : s.vm.findClass RX0 = some m.cls := findClass_of_methodNamed B.named
  have hlocks := B.notSynchronized
  have hin : meth.name = "<init>" := (name_of_methodNamed B.named B.method).1
  subst hsz
  have hD : va_D (va_A [e0] s.heap.size) [e0] := d1_self
  have hA : ∀ q : Nat, s.heap.size ≤ q → va_A [e0] s.heap.size q := fun q h => Or.inr h
  generalize hAe : va_A [e0] s.heap.size = A at hD hA ⊢
  have hS : va_S A s.heap s.heap [] := va_S.rf
  have hl := lv_entry ([.ref h0, .ref f0]) (n := 2) (Nat.le_of_ble_eq_true rfl)
  rw [lg_entry_eq]
  generalize (lg_sl ([.ref h0, .ref f0]) ++ List.replicate (2 - (lg_sl ([.ref h0, .ref f0])).length) Slot.unset).toArray = ls at hl ⊢
  have hl : lv_has ls 2 [(0, .ref h0), (1, .ref f0)] := hl
  rw [he0] at hP hD
  have hP : va_P D vwCl [(h0, .inr (0, [.null]))] s.heap := hP
  refine lv_aload_n hx hb dX0_init_0 rfl (lv_at hl 0 rfl) ?_
  refine W.objInit hx hb hown (hts _ tw_46) (hts _ tw_14) (hts _ tw_15) rfl (by rw [hml]; exact hl.1) rfl dX0_init_1 (Nat.le_of_ble_eq_true rfl) (Nat.le_of_ble_eq_true rfl) ?_
  refine W.eq (g2 := F0 m 4 ls []) rfl ?_
  refine lv_aload_n hx hb dX0_init_4 rfl (lv_at hl 0 rfl) ?_
  refine lv_aload_n hx hb dX0_init_5 rfl (lv_at hl 1 rfl) ?_
  refine va_putF (D := D) (ci := 0) (v := .ref f0) (ty := .object "LeftNumbers$Figures") (C := RX0) (T := TX0) (N := 1) hx hb hts inA_X0 tyX0 tyX0_ok nmX0 hown hK hP hD hS 0 rfl rfl 0 (by decide) (hts _ tw_47) (fun _ h9 => h9) rfl hin rfl (by decide +kernel) rfl rfl (Nat.le_of_ble_eq_true rfl) dX0_init_6 (fun H locs hP hD hS => ?_)
  have hP : va_P D vwCl [(h0, .inr (0, [.ref f0]))] H := hP
  have hD : va_D A [(h0, .inr (0, [.ref f0]))] := hD
  exact W.vret hx hb hr (fun t ht hW => ⟨⟨(), rfl, trivial, by rw [ht]; exact hP, va_K.moved hW.alike hK, hD⟩, hS.F ht⟩) hS.2.2 dX0_init_9 hlocks
theorem dX1_init_0 : decode cX1_init 0 = .ok (.aload_n 0, 1) := by decide +kernel
theorem dX1_init_1 : decode cX1_init 1 = .ok (.invokespecial 1, 3) := by decide +kernel
theorem dX1_init_4 : decode cX1_init 4 = .ok (.aload_n 0, 1) := by decide +kernel
theorem dX1_init_5 : decode cX1_init 5 = .ok (.bipush 60, 2) := by decide +kernel
theorem dX1_init_7 : decode cX1_init 7 = .ok (.newarray .long, 2) := by decide +kernel
theorem dX1_init_9 : decode cX1_init 9 = .ok (.putfield 7, 3) := by decide +kernel
theorem dX1_init_12 : decode cX1_init 12 = .ok (.aload_n 0, 1) := by decide +kernel
theorem dX1_init_13 : decode cX1_init 13 = .ok (.iconst 5, 1) := by decide +kernel
theorem dX1_init_14 : decode cX1_init 14 = .ok (.putfield 13, 3) := by decide +kernel
theorem dX1_init_17 : decode cX1_init 17 = .ok (.aload_n 0, 1) := by decide +kernel
theorem dX1_init_18 : decode cX1_init 18 = .ok (.iconst 0, 1) := by decide +kernel
theorem dX1_init_19 : decode cX1_init 19 = .ok (.putfield 17, 3) := by decide +kernel
theorem dX1_init_22 : decode cX1_init 22 = .ok (.aload_n 0, 1) := by decide +kernel
theorem dX1_init_23 : decode cX1_init 23 = .ok (.iconst 5, 1) := by decide +kernel
theorem dX1_init_24 : decode cX1_init 24 = .ok (.invokevirtual 20, 3) := by decide +kernel
theorem dX1_init_27 : decode cX1_init 27 = .ok (.return_, 1) := by decide +kernel
abbrev wz_X1_init : List Cond := .code yX1_init cX1_init 1 none :: wA
theorem hd_X1_init : (yX1_init).cls ≠ "java/lang/invoke/MethodHandle" ∧ (yX1_init).cls ≠ "java/lang/invoke/VarHandle" ∧ (parseMethodDescriptor (yX1_init).desc).map (fun d => d.parameters.length) = some 0 := by decide +kernel
abbrev fw (cy : Nat → ClassId) (h0 : Nat) (u : Nat × St) : va_W := [(h0, .inr (1, [.ref u.1, .int (u.2.1 1 1), .int (u.2.1 1 2)])), (u.1, .inl (cy 1, 60, .inr (.inl (u.2.2 2))))]
set_option maxRecDepth 100000 in
set_option maxHeartbeats 4000000 in
theorem c_X1_init (l : Launch) (D : va_G) (cy : Nat → ClassId) (h0 sz : Nat) (e0 : Nat × va_E) (he0 : e0 = (h0, .inr (1, [.null, .int 0, .int 0]))) : Met l yX1_init wz_X1_init ({ frames := 1, cells := 1, slots := 60, locals := 22 }) (va_Pc [.ref h0] (fun U => U.heap.size = sz ∧ va_P D vwCl [e0] U.heap ∧ va_K D vwCl (ty3 cy) U)) (va_Qv (fun u : Nat × St => fc u.2 5 25) (fun u t => va_P D vwCl (fw cy h0 u) t.heap ∧ va_K D vwCl (ty3 cy) t ∧ va_D (va_A [e0] sz) (fw cy h0 u)) (va_A [e0] sz)) 1 60 (va_A [e0] sz) := by
  refine Met.ofW (cc := cX1_init) (maxL := 1) (ret := none) (by decide +kernel) rfl ?_
  intro p e s m args below meth c s₁ B hml hv
  obtain ⟨rfl, hsz, hP, hK⟩ := hv
  have hx := B.exec
  have hb := B.bytes
  have hr := B.returns
  have hts0 := atoms_spec (ws := wz_X1_init) B.pre
  have hts : ∀ w ∈ wA, w.before _ s = true := fun w h => hts0 w (List.mem_cons_of_mem _ h)
  have hown : s.vm.findClass RX1 = some m.cls := findClass_of_methodNamed B.named
  have hlocks := B.notSynchronized
  have hin : meth.name = "<init>" := (name_of_methodNamed B.named B.method).1
  subst hsz
  have hD : va_D (va_A [e0] s.heap.size) [e0] := d1_self
  have hA : ∀ q : Nat, s.heap.size ≤ q → va_A [e0] s.heap.size q := fun q h => Or.inr h
  generalize hAe : va_A [e0] s.heap.size = A at hD hA ⊢
  have hS : va_S A s.heap s.heap [] := va_S.rf
  have hl := lv_entry ([.ref h0]) (n := 1) (Nat.le_of_ble_eq_true rfl)
  rw [lg_entry_eq]
  generalize (lg_sl ([.ref h0]) ++ List.replicate (1 - (lg_sl ([.ref h0])).length) Slot.unset).toArray = ls at hl ⊢
  have hl : lv_has ls 1 [(0, .ref h0)] := hl
  rw [he0] at hP hD
  have hP : va_P D vwCl [(h0, .inr (1, [.null, .int 0, .int 0]))] s.heap := hP
  refine lv_aload_n hx hb dX1_init_0 rfl (lv_at hl 0 rfl) ?_
  refine W.objInit hx hb hown (hts _ tw_21) (hts _ tw_14) (hts _ tw_15) rfl (by rw [hml]; exact hl.1) rfl dX1_init_1 (Nat.le_of_ble_eq_true rfl) (Nat.le_of_ble_eq_true rfl) ?_
  refine W.eq (g2 := F0 m 4 ls []) rfl ?_
  refine lv_aload_n hx hb dX1_init_4 rfl (lv_at hl 0 rfl) ?_
  refine lv_bipush (v := 60) hx hb dX1_init_5 (by decide) ?_
  refine n_L (n := 60) (N' := 60) hx hb (hts _ tw_40) hK hP hD hS hA (by decide) (by decide) (by decide) (by decide) (by decide) dX1_init_7 (fun q7 H hP hD hS => ?_)
  have hP : va_P D vwCl [(h0, .inr (1, [.null, .int 0, .int 0])), (q7, .inl (cy 1, 60, .inr (.inl (fun _ => 0))))] H := hP
  have hD : va_D A [(h0, .inr (1, [.null, .int 0, .int 0])), (q7, .inl (cy 1, 60, .inr (.inl (fun _ => 0))))] := hD
  refine W.widen (k := 1) (n := 60) (by decide) (by decide) ?_
  refine va_putF (D := D) (ci := 1) (v := .ref q7) (ty := .array .long) (C := RX1) (T := TX1) (N := 3) hx hb hts inA_X1 tyX1 tyX1_ok nmX1 hown hK hP hD hS 0 rfl rfl 0 (by decide) (hts _ tw_27) (fun _ h9 => h9) rfl hin rfl (by decide +kernel) rfl rfl (Nat.le_of_ble_eq_true rfl) dX1_init_9 (fun H locs hP hD hS => ?_)
  have hP : va_P D vwCl [(h0, .inr (1, [.ref q7, .int 0, .int 0])), (q7, .inl (cy 1, 60, .inr (.inl (fun _ => 0))))] H := hP
  have hD : va_D A [(h0, .inr (1, [.ref q7, .int 0, .int 0])), (q7, .inl (cy 1, 60, .inr (.inl (fun _ => 0))))] := hD
  refine lv_aload_n hx hb dX1_init_12 rfl (lv_at hl 0 rfl) ?_
  refine lv_iconst (v := 5) hx hb dX1_init_13 (by decide) ?_
  refine va_put (D := D) (ci := 1) (v := .int 5) (ty := .int) (C := RX1) (T := TX1) (N := 3) hx hb hts inA_X1 tyX1 tyX1_ok nmX1 hown hK hP hD hS 0 rfl rfl 1 (by decide) (hts _ tw_28) (fun _ h9 => h9) rfl (by decide +kernel) rfl rfl (Nat.le_of_ble_eq_true rfl) dX1_init_14 (fun H locs hP hD hS => ?_)
  have hP : va_P D vwCl [(h0, .inr (1, [.ref q7, .int 5, .int 0])), (q7, .inl (cy 1, 60, .inr (.inl (fun _ => 0))))] H := hP
  have hD : va_D A [(h0, .inr (1, [.ref q7, .int 5, .int 0])), (q7, .inl (cy 1, 60, .inr (.inl (fun _ => 0))))] := hD
  refine lv_aload_n hx hb dX1_init_17 rfl (lv_at hl 0 rfl) ?_
  refine lv_iconst (v := 0) hx hb dX1_init_18 (by decide) ?_
  refine va_put (D := D) (ci := 1) (v := .int 0) (ty := .int) (C := RX1) (T := TX1) (N := 3) hx hb hts inA_X1 tyX1 tyX1_ok nmX1 hown hK hP hD hS 0 rfl rfl 2 (by decide) (hts _ tw_30) (fun _ h9 => h9) rfl (by decide +kernel) rfl rfl (Nat.le_of_ble_eq_true rfl) dX1_init_19 (fun H locs hP hD hS => ?_)
  have hP : va_P D vwCl [(h0, .inr (1, [.ref q7, .int 5, .int 0])), (q7, .inl (cy 1, 60, .inr (.inl (fun _ => 0))))] H := hP
  have hD : va_D A [(h0, .inr (1, [.ref q7, .int 5, .int 0])), (q7, .inl (cy 1, 60, .inr (.inl (fun _ => 0))))] := hD
  refine lv_aload_n hx hb dX1_init_22 rfl (lv_at hl 0 rfl) ?_
  refine lv_iconst (v := 5) hx hb dX1_init_23 (by decide) ?_
  obtain ⟨S1, g1, g2, g3, g4⟩ := cf_choose (p := 5) (K := 25) (S := (fun _ b => if b = 1 then 5 else 0, fun _ _ => 0)) (by unfold pk; omega)
  have ha0 : A h0 := hD.2 0 _ rfl
  have ha1 : A q7 := hD.2 1 _ rfl
  have hne : h0 ≠ q7 := fun q => by have := hD.1 0 1 _ _ rfl rfl q; omega
  have hPf : va_P D vwCl (wf cy (fun k => if k = 1 then h0 else q7) (fun _ b => if b = 1 then 5 else 0, fun _ _ => 0)) H := hP
  have hFa : ∀ q, af (fun k => if k = 1 then h0 else q7) q → A q := fun q h => by
    rcases h with rfl | rfl
    · exact hD.2 0 _ rfl
    · exact hD.2 1 _ rfl
  refine va_callv (va_runV (As := [.int 5]) (rest := []) ⟨hx, hb, hml, hown, hts⟩ (cf_X1_choose l D cy (fun k => if k = 1 then h0 else q7) hne _ 5 g1) (cwV 1 hts (wA_v tw_22 tw_23 tw_24 tw_2 tw_25) rfl rfl rfl hd_X1_choose ⟨by decide, by decide⟩) ⟨fb_pw, va_recv hK hP (ci := 1) (q0 := 0) rfl rfl, fun U hU hW9 => ⟨rfl, by rw [hU]; exact hPf, va_K.moved hW9.alike hK⟩⟩ rfl rfl hl.1 rfl (lv_room (by decide)) dX1_init_24 ⟨by decide, by decide⟩) hS (fun q _ h => hFa q h) hFa (fun u t H1 locs1 ht hvm hw hB _ _ hS => ?_)
  have hw : u = S1 := hw
  rw [hw] at hB
  have hP := hB.1
  rw [ht] at hP
  have hP : va_P D vwCl (fw cy h0 (q7, S1)) H1 := hP
  have hD : va_D A (fw cy h0 (q7, S1)) := ⟨fun i j p q hi hj e9 => by
      have h1 := (List.getElem?_eq_some_iff.mp hi).1
      have h2 := (List.getElem?_eq_some_iff.mp hj).1
      simp only [List.length_cons, List.length_nil] at h1 h2
      have h3 : i = 0 ∨ i = 1 := by omega
      have h4 : j = 0 ∨ j = 1 := by omega
      rcases h3 with rfl | rfl <;> rcases h4 with rfl | rfl
      · rfl
      · cases hi; cases hj; exact absurd e9 hne
      · cases hi; cases hj; exact absurd e9.symm hne
      · rfl, fun k q hk => by
      have h1 := (List.getElem?_eq_some_iff.mp hk).1
      simp only [List.length_cons, List.length_nil] at h1
      have h3 : k = 0 ∨ k = 1 := by omega
      rcases h3 with rfl | rfl
      · cases hk; exact ha0
      · cases hk; exact ha1⟩
  exact W.vret hx hb hr (fun t ht hW => ⟨⟨(q7, S1), rfl, g2, by rw [ht]; exact hP, va_K.moved hW.alike hK, hD⟩, hS.F ht⟩) hS.2.2 dX1_init_27 hlocks
