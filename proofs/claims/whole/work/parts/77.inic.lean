theorem dX3_init_0 : decode cX3_init 0 = .ok (.aload_n 0, 1) := by decide +kernel
theorem dX3_init_1 : decode cX3_init 1 = .ok (.invokespecial 1, 3) := by decide +kernel
theorem dX3_init_4 : decode cX3_init 4 = .ok (.aload_n 0, 1) := by decide +kernel
theorem dX3_init_5 : decode cX3_init 5 = .ok (.new 7, 3) := by decide +kernel
theorem dX3_init_8 : decode cX3_init 8 = .ok (.dup, 1) := by decide +kernel
theorem dX3_init_9 : decode cX3_init 9 = .ok (.invokespecial 9, 3) := by decide +kernel
theorem dX3_init_12 : decode cX3_init 12 = .ok (.putfield 10, 3) := by decide +kernel
theorem dX3_init_15 : decode cX3_init 15 = .ok (.aload_n 0, 1) := by decide +kernel
theorem dX3_init_16 : decode cX3_init 16 = .ok (.new 16, 3) := by decide +kernel
theorem dX3_init_19 : decode cX3_init 19 = .ok (.dup, 1) := by decide +kernel
theorem dX3_init_20 : decode cX3_init 20 = .ok (.aload_n 0, 1) := by decide +kernel
theorem dX3_init_21 : decode cX3_init 21 = .ok (.getfield 10, 3) := by decide +kernel
theorem dX3_init_24 : decode cX3_init 24 = .ok (.invokespecial 18, 3) := by decide +kernel
theorem dX3_init_27 : decode cX3_init 27 = .ok (.putfield 21, 3) := by decide +kernel
theorem dX3_init_30 : decode cX3_init 30 = .ok (.aload_n 0, 1) := by decide +kernel
theorem dX3_init_31 : decode cX3_init 31 = .ok (.bipush 60, 2) := by decide +kernel
theorem dX3_init_33 : decode cX3_init 33 = .ok (.anewarray 25, 3) := by decide +kernel
theorem dX3_init_36 : decode cX3_init 36 = .ok (.putfield 27, 3) := by decide +kernel
theorem dX3_init_39 : decode cX3_init 39 = .ok (.aload_n 0, 1) := by decide +kernel
theorem dX3_init_40 : decode cX3_init 40 = .ok (.bipush 8, 2) := by decide +kernel
theorem dX3_init_42 : decode cX3_init 42 = .ok (.newarray .int, 2) := by decide +kernel
theorem dX3_init_44 : decode cX3_init 44 = .ok (.putfield 31, 3) := by decide +kernel
theorem dX3_init_47 : decode cX3_init 47 = .ok (.aload_n 0, 1) := by decide +kernel
theorem dX3_init_48 : decode cX3_init 48 = .ok (.new 25, 3) := by decide +kernel
theorem dX3_init_51 : decode cX3_init 51 = .ok (.dup, 1) := by decide +kernel
theorem dX3_init_52 : decode cX3_init 52 = .ok (.invokespecial 35, 3) := by decide +kernel
theorem dX3_init_55 : decode cX3_init 55 = .ok (.putfield 36, 3) := by decide +kernel
theorem dX3_init_58 : decode cX3_init 58 = .ok (.aload_n 0, 1) := by decide +kernel
theorem dX3_init_59 : decode cX3_init 59 = .ok (.new 25, 3) := by decide +kernel
theorem dX3_init_62 : decode cX3_init 62 = .ok (.dup, 1) := by decide +kernel
theorem dX3_init_63 : decode cX3_init 63 = .ok (.invokespecial 35, 3) := by decide +kernel
theorem dX3_init_66 : decode cX3_init 66 = .ok (.putfield 40, 3) := by decide +kernel
theorem dX3_init_69 : decode cX3_init 69 = .ok (.aload_n 0, 1) := by decide +kernel
theorem dX3_init_70 : decode cX3_init 70 = .ok (.new 25, 3) := by decide +kernel
theorem dX3_init_73 : decode cX3_init 73 = .ok (.dup, 1) := by decide +kernel
theorem dX3_init_74 : decode cX3_init 74 = .ok (.invokespecial 35, 3) := by decide +kernel
theorem dX3_init_77 : decode cX3_init 77 = .ok (.putfield 43, 3) := by decide +kernel
theorem dX3_init_80 : decode cX3_init 80 = .ok (.aload_n 0, 1) := by decide +kernel
theorem dX3_init_81 : decode cX3_init 81 = .ok (.iconst 0, 1) := by decide +kernel
theorem dX3_init_82 : decode cX3_init 82 = .ok (.putfield 46, 3) := by decide +kernel
theorem dX3_init_85 : decode cX3_init 85 = .ok (.aload_n 0, 1) := by decide +kernel
theorem dX3_init_86 : decode cX3_init 86 = .ok (.iconst 0, 1) := by decide +kernel
theorem dX3_init_87 : decode cX3_init 87 = .ok (.putfield 50, 3) := by decide +kernel
theorem dX3_init_90 : decode cX3_init 90 = .ok (.iconst 0, 1) := by decide +kernel
theorem dX3_init_91 : decode cX3_init 91 = .ok (.istore_n 1, 1) := by decide +kernel
theorem dX3_init_92 : decode cX3_init 92 = .ok (.iload_n 1, 1) := by decide +kernel
theorem dX3_init_93 : decode cX3_init 93 = .ok (.aload_n 0, 1) := by decide +kernel
theorem dX3_init_94 : decode cX3_init 94 = .ok (.getfield 27, 3) := by decide +kernel
theorem dX3_init_97 : decode cX3_init 97 = .ok (.arraylength, 1) := by decide +kernel
theorem dX3_init_98 : decode cX3_init 98 = .ok (.if_icmp .ge 22, 3) := by decide +kernel
theorem dX3_init_101 : decode cX3_init 101 = .ok (.aload_n 0, 1) := by decide +kernel
theorem dX3_init_102 : decode cX3_init 102 = .ok (.getfield 27, 3) := by decide +kernel
theorem dX3_init_105 : decode cX3_init 105 = .ok (.iload_n 1, 1) := by decide +kernel
theorem dX3_init_106 : decode cX3_init 106 = .ok (.new 25, 3) := by decide +kernel
theorem dX3_init_109 : decode cX3_init 109 = .ok (.dup, 1) := by decide +kernel
theorem dX3_init_110 : decode cX3_init 110 = .ok (.invokespecial 35, 3) := by decide +kernel
theorem dX3_init_113 : decode cX3_init 113 = .ok (.aastore, 1) := by decide +kernel
theorem dX3_init_114 : decode cX3_init 114 = .ok (.iinc 1 1, 3) := by decide +kernel
theorem dX3_init_117 : decode cX3_init 117 = .ok (.goto (-25), 3) := by decide +kernel
theorem dX3_init_120 : decode cX3_init 120 = .ok (.return_, 1) := by decide +kernel
abbrev wz_X3_init : List Cond := .code yX3_init cX3_init 2 none :: wA
theorem hd_X3_init : (yX3_init).cls ≠ "java/lang/invoke/MethodHandle" ∧ (yX3_init).cls ≠ "java/lang/invoke/VarHandle" ∧ (parseMethodDescriptor (yX3_init).desc).map (fun d => d.parameters.length) = some 0 := by decide +kernel
theorem fb_in {D : va_G} {cy : Nat → ClassId} {av : List Value} {e0 : Nat × va_E} {sz : Nat} : FrameBlind (va_Pc av (fun U => U.heap.size = sz ∧ va_P D vwCl [e0] U.heap ∧ va_K D vwCl (ty3 cy) U)) := fun a U g mk q => ⟨q.1, q.2.1, q.2.2.1, va_K.moved (u := U) (U := U.calling g mk a) (Vm.Alike.refl U.vm) q.2.2.2⟩
theorem at_last {α : Type} (w : List α) (a b : α) : (w ++ [a, b])[w.length]? = some a := by simp
section
variable {p : Program} {l : Launch} {e : Env} {R : Room} {s : State} {m : MethodId} {args : Array Value} {below : List Frame} {meth : Method} {c : Code} {H : Heap} {locs : List Loc} {cells slots : Nat} {Q : State → Prop} {cc : ByteArray} {pc nL : Nat} {ls : Array Slot} {rest : List Value}
variable {D : va_G} {cy : Nat → ClassId} {ws : va_W} {A : Nat → Prop}
set_option maxRecDepth 100000 in
theorem n_V (F : CallFix p m c cc nL s args wA RX3) (hN : va_Nw (.methodLinkNest "LeftNumbers" 35 yX2_init "LeftNumbers") s) (hK : va_K D vwCl (ty3 cy) s) (hP : va_P D vwCl ws H) (hD : va_D A ws) (hS : va_S A s.heap H locs) (hA : ∀ q, s.heap.size ≤ q → A q) (hcells : cells + 2 ≤ R.cells) (hslots : slots + 16 ≤ R.slots) (hfr : 2 ≤ R.frames) (hlo : 32 ≤ R.locals) (hsize : ls.size = nL) (hW : (((rest.map fun v => v.category).sum) + 1) ≤ 8) (d1 : decode cc pc = .ok (.new 25, 3)) (d2 : decode cc (pc + 3) = .ok (.dup, 1)) (d3 : decode cc (pc + 3 + 1) = .ok (.invokespecial 35, 3))
    (kk : ∀ (q qp : Nat) (H1 : Heap) (locs1 : List Loc), va_P D vwCl (ws ++ [(q, v0 qp), (qp, a8 cy)]) H1 → va_D A (ws ++ [(q, v0 qp), (qp, a8 cy)]) → va_S A s.heap H1 locs1 → W p l e R s m args below meth c H1 locs1 (cells + 2) (slots + 16) Q (F0 m (pc + 7) ls (.ref q :: rest))) : W p l e R s m args below meth c H locs cells slots Q (F0 m pc ls rest) := by
  obtain ⟨hx, hb, hml, hown, hts⟩ := id F
  refine va_new (ci := 2) (fs := [.null, .int 0, .int 0, .int 0, .long 0, .int 0, .int 0, .int 0]) (C := RX2) (T := TX2) (N := 8) hx hb hts inA_X2 tyX2 tyX2_ok hown (hts _ tw_51) (hts _ tw_53) (hts _ tw_4) hK hP hD hS hA rfl (fun j hj => by rcases (show j = 0 ∨ j = 1 ∨ j = 2 ∨ j = 3 ∨ j = 4 ∨ j = 5 ∨ j = 6 ∨ j = 7 by omega) with rfl | rfl | rfl | rfl | rfl | rfl | rfl | rfl <;> rfl) (by omega) (by omega) d1 (fun q H hP hD hS => ?_)
  refine lv_dup hx hb d2 rfl ?_
  have hFc := fr_last hD hS hA
  refine va_callv (va_runIN (As := []) (rest := .ref q :: rest) F (c_X2_init l D cy q H.size _ rfl) ⟨va_cnB 0 hts (wA_c tw_56) rfl rfl rfl hN (hts _ tw_4) hd_X2_init ⟨hfr, hlo⟩, rfl, hts _ tw_55⟩ ⟨fb_in, fun U hU hW => ⟨rfl, by rw [hU], by rw [hU]; exact sub_last hP, va_K.moved hW.alike hK⟩⟩ rfl rfl hsize rfl (lv_room (by simp only [List.map_cons, List.sum_cons]; show 1 + _ ≤ 8; omega)) d3 ⟨by omega, by omega⟩) hS (fun q _ h => hFc q h) hFc (fun qp t H1 locs1 ht hvm hw hB hz1 hk1 hS => ?_)
  obtain ⟨hP1, _, hD1⟩ := hB
  rw [ht] at hP1
  obtain ⟨hP, hD⟩ := jn_last hP hD hk1 hFc hP1 hD1
  exact W.widen (k := cells + 2) (n := slots + 16) (by omega) (by omega) (kk q qp H1 locs1 hP hD hS)
end
/-! the object's first twelve cells, and the Values of its row -/
abbrev bs (cy : Nat → ClassId) (h0 f fp ar nu po v1 p1 v2 p2 v3 p3 : Nat) (SF : St) (g : Nat → Option Nat) : va_W := [(h0, .inr (3, [.ref f, .ref ar, .ref nu, .ref po, .ref v1, .ref v2, .ref v3, .int 0, .int 0])), (f, .inr (1, [.ref fp, .int (SF.1 1 1), .int (SF.1 1 2)])), (fp, .inl (cy 1, 60, .inr (.inl (SF.2 2)))), (ar, .inr (0, [.ref f])), (nu, .inl (cy 2, 60, .inr (.inr (.inr (.inr g))))), (po, a8 cy), (v1, v0 p1), (p1, a8 cy), (v2, v0 p2), (p2, a8 cy), (v3, v0 p3), (p3, a8 cy)]
def vl (cy : Nat → ClassId) (L : List (Nat × Nat)) : va_W := L.flatMap (fun x => [(x.1, v0 x.2), (x.2, a8 cy)])
def fl (L : List (Nat × Nat)) (k : Nat) : Option Nat := (L[k]?).map Prod.fst
theorem vl_app (cy : Nat → ClassId) (L : List (Nat × Nat)) (q qp : Nat) : vl cy (L ++ [(q, qp)]) = vl cy L ++ [(q, v0 qp), (qp, a8 cy)] := by simp [vl]
theorem fl_app (L : List (Nat × Nat)) (q qp : Nat) : va_up (fl L) L.length (some q) = fl (L ++ [(q, qp)]) := by
  funext k
  unfold va_up fl
  by_cases h : k = L.length
  · subst h; simp
  · rw [if_neg h]
    by_cases h2 : k < L.length
    · rw [List.getElem?_append_left h2]
    · rw [List.getElem?_eq_none (by omega), List.getElem?_eq_none (by simp; omega)]
theorem vl_0 {cy : Nat → ClassId} : ∀ {L : List (Nat × Nat)} {j : Nat}, j < L.length → (vl cy L)[2 * j]? = some ((L.getD j (0, 0)).1, v0 (L.getD j (0, 0)).2) := by
  intro L
  induction L with
  | nil => intro j h; simp at h
  | cons x t ih =>
    intro j h
    cases j with
    | zero => rfl
    | succ j => exact ih (j := j) (by simpa using h)
theorem vl_1 {cy : Nat → ClassId} : ∀ {L : List (Nat × Nat)} {j : Nat}, j < L.length → (vl cy L)[2 * j + 1]? = some ((L.getD j (0, 0)).2, a8 cy) := by
  intro L
  induction L with
  | nil => intro j h; simp at h
  | cons x t ih =>
    intro j h
    cases j with
    | zero => rfl
    | succ j => exact ih (j := j) (by simpa using h)
def gx (h0 f fp ar nu po v1 p1 v2 p2 v3 p3 : Nat) (L : List (Nat × Nat)) (r : Nat) : Nat := if r < 6 then gl [h0, f, fp, ar, nu, po] r else if r < 126 then (if r % 2 = 0 then (L.getD ((r - 6) / 2) (0, 0)).1 else (L.getD ((r - 6) / 2) (0, 0)).2) else gl [v1, p1, v2, p2, v3, p3] (r - 126)
def si0 (SF : St) : St := (fun r k => if r = 1 then SF.1 1 k else if kc r = 2 then (if k = 6 then 1 else 0) else 0, fun r k => if r = 2 then SF.2 2 k else 0)
def px (r : Nat) : Nat := if r < 6 then r else if r < 126 then r + 6 else r - 120
section
variable {cy : Nat → ClassId} {h0 f fp ar nu po v1 p1 v2 p2 v3 p3 : Nat} {SF : St} {L : List (Nat × Nat)} {D : va_G} {H : Heap} {A : Nat → Prop}
theorem gx_V {j : Nat} (h : j < 60) : gx h0 f fp ar nu po v1 p1 v2 p2 v3 p3 L (6 + 2 * j) = (L.getD j (0, 0)).1 := by
  unfold gx
  rw [if_neg (by omega), if_pos (by omega), if_pos (by omega), show (6 + 2 * j - 6) / 2 = j by omega]
theorem gx_P {j : Nat} (h : j < 60) : gx h0 f fp ar nu po v1 p1 v2 p2 v3 p3 L (6 + 2 * j + 1) = (L.getD j (0, 0)).2 := by
  unfold gx
  rw [if_neg (by omega), if_pos (by omega), if_neg (by omega), show (6 + 2 * j + 1 - 6) / 2 = j by omega]
set_option maxRecDepth 100000 in
theorem bx_at (hL : L.length = 60) {r : Nat} (hr : r < 132) : (bs cy h0 f fp ar nu po v1 p1 v2 p2 v3 p3 SF (fun j => some (gx h0 f fp ar nu po v1 p1 v2 p2 v3 p3 L (6 + 2 * j))) ++ vl cy L)[px r]? = some (gx h0 f fp ar nu po v1 p1 v2 p2 v3 p3 L r, ec cy (gx h0 f fp ar nu po v1 p1 v2 p2 v3 p3 L) (si0 SF) r) := by
  by_cases h6 : r < 6
  · have : r = 0 ∨ r = 1 ∨ r = 2 ∨ r = 3 ∨ r = 4 ∨ r = 5 := by omega
    rcases this with rfl | rfl | rfl | rfl | rfl | rfl <;> rfl
  by_cases h7 : 126 ≤ r
  · have : r = 126 ∨ r = 127 ∨ r = 128 ∨ r = 129 ∨ r = 130 ∨ r = 131 := by omega
    rcases this with rfl | rfl | rfl | rfl | rfl | rfl <;> rfl
  have hp : px r = 12 + (r - 6) := by unfold px; rw [if_neg h6, if_pos (by omega)]; omega
  rw [hp, List.getElem?_append_right (by simp), show 12 + (r - 6) - (bs cy h0 f fp ar nu po v1 p1 v2 p2 v3 p3 SF (fun j => some (gx h0 f fp ar nu po v1 p1 v2 p2 v3 p3 L (6 + 2 * j)))).length = r - 6 by simp]
  by_cases h2 : r % 2 = 0
  · obtain ⟨j, rfl⟩ : ∃ j, r = 6 + 2 * j := ⟨(r - 6) / 2, by omega⟩
    have hj : j < 60 := by omega
    have hk : kc (6 + 2 * j) = 2 := kc_V (by omega)
    rw [show 6 + 2 * j - 6 = 2 * j by omega, vl_0 (by omega), gx_V hj]
    unfold ec
    rw [if_pos hk, gx_P hj]
    have n1 : 6 + 2 * j ≠ 1 := by omega
    have n2 : 6 + 2 * j ≠ 2 := by omega
    simp [si0, hk, n1, n2]
  · obtain ⟨j, rfl⟩ : ∃ j, r = 6 + 2 * j + 1 := ⟨(r - 6) / 2, by omega⟩
    have hj : j < 60 := by omega
    have hk : kc (6 + 2 * j + 1) = 5 := kc_poly (kc_V (by omega))
    rw [show 6 + 2 * j + 1 - 6 = 2 * j + 1 by omega, vl_1 (by omega), gx_P hj]
    unfold ec
    rw [if_neg (by rw [hk]; decide), if_pos hk]
    have n1 : 6 + 2 * j + 1 ≠ 1 := by omega
    simp [si0, hk, n1]
theorem wc_of (hL : L.length = 60) (hP : va_P D vwCl (bs cy h0 f fp ar nu po v1 p1 v2 p2 v3 p3 SF (fl L) ++ vl cy L) H) : va_P D vwCl (wc cy (gx h0 f fp ar nu po v1 p1 v2 p2 v3 p3 L) (si0 SF)) H := by
  have h4 := hP 4 _ rfl
  have e4 : vp_cell (cy 2) (60, .inr (.inr (.inr (.inr (fl L))))) = vp_cell (cy 2) (60, .inr (.inr (.inr (.inr (fun j => some (gx h0 f fp ar nu po v1 p1 v2 p2 v3 p3 L (6 + 2 * j))))))) := by
    have hf : (fun j : Fin 60 => va_rf (fl L j)) = fun j : Fin 60 => va_rf (some (gx h0 f fp ar nu po v1 p1 v2 p2 v3 p3 L (6 + 2 * j))) := by
      funext j
      have hj := j.2
      rw [gx_V hj]
      unfold fl
      rw [List.getD_eq_getElem?_getD, List.getElem?_eq_getElem (by omega)]
      rfl
    rw [vp_cell_q, vp_cell_q]
    unfold arrV
    rw [hf]
  intro r q hq
  obtain ⟨hr, rfl⟩ := wg_in hq
  have hb := bx_at (cy := cy) (h0 := h0) (f := f) (fp := fp) (ar := ar) (nu := nu) (po := po) (v1 := v1) (p1 := p1) (v2 := v2) (p2 := p2) (v3 := v3) (p3 := p3) (SF := SF) hL hr
  by_cases h9 : r = 4
  · subst h9
    have h5 : H[nu]? = some (vp_cell (cy 2) (60, .inr (.inr (.inr (.inr (fl L)))))) := h4
    rw [e4] at h5
    exact h5
  · refine hP (px r) _ ?_
    rw [← hb]
    have hp : px r ≠ 4 := by unfold px; split <;> (try split) <;> omega
    match h : px r with
    | 0 => rfl
    | 1 => rfl
    | 2 => rfl
    | 3 => rfl
    | 4 => exact absurd h hp
    | (n + 5) => rfl
theorem wcD_of (hL : L.length = 60) (hD : va_D A (bs cy h0 f fp ar nu po v1 p1 v2 p2 v3 p3 SF (fl L) ++ vl cy L)) : va_D A (wc cy (gx h0 f fp ar nu po v1 p1 v2 p2 v3 p3 L) (si0 SF)) := by
  have key : ∀ r, r < 132 → ∃ e9, (bs cy h0 f fp ar nu po v1 p1 v2 p2 v3 p3 SF (fl L) ++ vl cy L)[px r]? = some (gx h0 f fp ar nu po v1 p1 v2 p2 v3 p3 L r, e9) := by
    intro r hr
    have hb := bx_at (cy := cy) (h0 := h0) (f := f) (fp := fp) (ar := ar) (nu := nu) (po := po) (v1 := v1) (p1 := p1) (v2 := v2) (p2 := p2) (v3 := v3) (p3 := p3) (SF := SF) hL hr
    by_cases h9 : r = 4
    · subst h9; exact ⟨_, rfl⟩
    · refine ⟨_, Eq.trans ?_ hb⟩
      have hp : px r ≠ 4 := by unfold px; split <;> (try split) <;> omega
      match h : px r with
      | 0 => rfl
      | 1 => rfl
      | 2 => rfl
      | 3 => rfl
      | 4 => exact absurd h hp
      | (n + 5) => rfl
  refine ⟨fun i j p q hi hj e => ?_, fun k q hk => ?_⟩
  · obtain ⟨h1, rfl⟩ := wg_in hi
    obtain ⟨h2, rfl⟩ := wg_in hj
    obtain ⟨_, k1⟩ := key i h1
    obtain ⟨_, k2⟩ := key j h2
    have h3 := hD.1 _ _ _ _ k1 k2 e
    unfold px at h3
    split at h3 <;> split at h3 <;> (try split at h3) <;> (try split at h3) <;> omega
  · obtain ⟨h1, rfl⟩ := wg_in hk
    obtain ⟨_, k1⟩ := key k h1
    have h2 := hD.2 _ _ k1
    exact h2
theorem fc_si0 (h : fc SF 5 25) : fc (si0 SF) 5 25 := ⟨h.1, h.2.1, h.2.2⟩
end

set_option maxRecDepth 100000 in
set_option maxHeartbeats 4000000 in
theorem b_X3_init_92 {p : Program} {l : Launch} {e : Env} {s : State} {m : MethodId} {args : Array Value} {below : List Frame} {meth : Method} {c : Code} {D : va_G} {cy : Nat → ClassId} {h0 f fp ar nu po v1 p1 v2 p2 v3 p3 : Nat} {SF : St} {A : Nat → Prop} (hSF : fc SF 5 25) (F : CallFix p m c cX3_init 2 s args wA RX3) (hr : meth.sig.returnType = none) (hlocks : meth.locks = false) (hK : va_K D vwCl (ty3 cy) s) (hN : va_Nw (.methodLinkNest "LeftNumbers" 35 yX2_init "LeftNumbers") s) (hA : ∀ q, s.heap.size ≤ q → A q) : ∀ (j : Nat) (L : List (Nat × Nat)) (H : Heap) (locs : List Loc) (ls : Array Slot), L.length + j = 60 → va_P D vwCl (bs cy h0 f fp ar nu po v1 p1 v2 p2 v3 p3 SF (fl L) ++ vl cy L) H → va_D A (bs cy h0 f fp ar nu po v1 p1 v2 p2 v3 p3 SF (fl L) ++ vl cy L) → va_S A s.heap H locs → lv_has ls 2 [(0, .ref h0), (1, .int (ji L.length))] → W p l e { frames := 2, cells := 131, slots := 1140, locals := 42 } s m args below meth c H locs (11 + 2 * L.length) (180 + 16 * L.length) (MQ below (va_Qv (fun u : (Nat → Nat) × St => u.1 0 = h0 ∧ fc u.2 5 25 ∧ u.2.1 0 7 = 0 ∧ u.2.1 0 8 = 0 ∧ ∀ i, i < 8 → u.2.1 5 i = 0) (fun u t => va_P D vwCl (wc cy u.1 u.2) t.heap ∧ va_K D vwCl (ty3 cy) t ∧ va_D A (wc cy u.1 u.2)) A) args s 131 1140 A) (F0 m 92 ls []) := by
  obtain ⟨hx, hb, hml, hown, hts⟩ := id F
  intro j
  induction j with
  | zero =>
    intro L H locs ls hL hP hD hS hl
    have hL : L.length = 60 := by omega
    refine lv_iload_n hx hb dX3_init_92 rfl (lv_at hl 1 rfl) ?_
    refine lv_aload_n hx hb dX3_init_93 rfl (lv_at hl 0 rfl) ?_
    refine va_get (D := D) (ci := 3) (v := .ref nu) (C := RX3) (T := TX3) (N := 9) hx hb hts inA_X3 hown hK hP 0 rfl rfl 2 (by decide) (hts _ tw_100) (fun _ h9 => h9) rfl dX3_init_94 ?_
    refine va_alen (v := 60) (ty := .object "LeftNumbers$Value") hx hb hK hP 4 2 rfl rfl rfl dX3_init_97 ?_
    refine lv_icmp_ge (tgt := 120) hx hb dX3_init_98 (by decide) (fun c1 => ?_) (fun c1 => absurd (by rw [hL]; decide) c1)
    refine W.widen (k := 131) (n := 1140) (by omega) (by omega) ?_
    have hP9 := wc_of hL hP
    have hD9 := wcD_of hL hD
    exact W.vret hx hb hr (fun t ht hW => ⟨⟨(gx h0 f fp ar nu po v1 p1 v2 p2 v3 p3 L, si0 SF), rfl, ⟨rfl, fc_si0 hSF, rfl, rfl, fun i _ => rfl⟩, by rw [ht]; exact hP9, va_K.moved hW.alike hK, hD9⟩, hS.F ht⟩) hS.2.2 dX3_init_120 hlocks
  | succ j ih =>
    intro L H locs ls hL hP hD hS hl
    have ri1 : ri (L.length : Int) := ⟨by omega, by omega⟩
    refine lv_iload_n hx hb dX3_init_92 rfl (lv_at hl 1 rfl) ?_
    refine lv_aload_n hx hb dX3_init_93 rfl (lv_at hl 0 rfl) ?_
    refine va_get (D := D) (ci := 3) (v := .ref nu) (C := RX3) (T := TX3) (N := 9) hx hb hts inA_X3 hown hK hP 0 rfl rfl 2 (by decide) (hts _ tw_100) (fun _ h9 => h9) rfl dX3_init_94 ?_
    refine va_alen (v := 60) (ty := .object "LeftNumbers$Value") hx hb hK hP 4 2 rfl rfl rfl dX3_init_97 ?_
    refine lv_icmp_ge (tgt := 120) hx hb dX3_init_98 (by decide) (fun c1 => absurd c1 (fun q => by have := (ji_ler (a := L.length) (c := 60) (b := 60) ri1 rfl (by decide)).mp q; omega)) (fun c1 => ?_)
    refine lv_aload_n hx hb dX3_init_101 rfl (lv_at hl 0 rfl) ?_
    refine va_get (D := D) (ci := 3) (v := .ref nu) (C := RX3) (T := TX3) (N := 9) hx hb hts inA_X3 hown hK hP 0 rfl rfl 2 (by decide) (hts _ tw_100) (fun _ h9 => h9) rfl dX3_init_102 ?_
    refine lv_iload_n hx hb dX3_init_105 rfl (lv_at hl 1 rfl) ?_
    refine n_V F hN hK hP hD hS hA (by show 11 + 2 * L.length + 2 ≤ 131; omega) (by show 180 + 16 * L.length + 16 ≤ 1140; omega) (by decide) (by decide) hl.1 (Nat.le_of_ble_eq_true rfl) dX3_init_106 dX3_init_109 dX3_init_110 (fun q qp H locs hP hD hS => ?_)
    have hlen : (bs cy h0 f fp ar nu po v1 p1 v2 p2 v3 p3 SF (fl L) ++ vl cy L ++ [(q, v0 qp), (qp, a8 cy)])[(bs cy h0 f fp ar nu po v1 p1 v2 p2 v3 p3 SF (fl L) ++ vl cy L).length]? = some (q, v0 qp) := at_last _ _ _
    refine va_astq (r := (RX2, TX2, 8)) hx hb hK hP hD hS 4 2 _ 2 rfl rfl hlen rfl (by show ¬ oob (ji (L.length : Int)) 60; rw [ji_oob ri1]; omega) dX3_init_113 (fun H locs hP hD hS => ?_)
    have ew : (bs cy h0 f fp ar nu po v1 p1 v2 p2 v3 p3 SF (fl L) ++ vl cy L ++ [(q, v0 qp), (qp, a8 cy)]).set 4 (nu, .inl (cy 2, 60, .inr (.inr (.inr (.inr (va_up (fl L) (ji (L.length : Int)).toNatClampNeg (some q))))))) = bs cy h0 f fp ar nu po v1 p1 v2 p2 v3 p3 SF (fl (L ++ [(q, qp)])) ++ vl cy (L ++ [(q, qp)]) := by
      rw [ji_nat ri1, show ((L.length : Int)).toNat = L.length by omega, fl_app L q qp, vl_app, ← List.append_assoc]
      rfl
    rw [ew] at hP hD
    refine lv_iinc (v := ji (L.length : Int) + 1) (lv' := [(1, .int (ji (L.length : Int) + 1)), (0, .ref h0)]) hx hb dX3_init_114 hl (k := 1) rfl rfl (by decide) rfl (fun ls hl => ?_)
    refine lv_goto (tgt := 92) hx hb dX3_init_117 (by decide) ?_
    have e1 : ji (L.length : Int) + 1 = ji ((L ++ [(q, qp)]).length : Int) := by rw [show (1 : Int32) = ji 1 from rfl, ji_add]; congr 1; simp
    rw [e1] at hl
    refine W.widen (k := 11 + 2 * (L ++ [(q, qp)]).length) (n := 180 + 16 * (L ++ [(q, qp)]).length) (by simp; omega) (by simp; omega) ?_
    exact ih (L ++ [(q, qp)]) H locs ls (by simp; omega) hP hD hS (lv_sub hl [1, 0] rfl)
set_option maxRecDepth 100000 in
set_option maxHeartbeats 4000000 in
theorem c_X3_init (l : Launch) (D : va_G) (cy : Nat → ClassId) (h0 sz : Nat) (e0 : Nat × va_E) (he0 : e0 = (h0, .inr (3, [.null, .null, .null, .null, .null, .null, .null, .int 0, .int 0]))) : Met l yX3_init wz_X3_init ({ frames := 2, cells := 131, slots := 1140, locals := 42 }) (va_Pc [.ref h0] (fun U => U.heap.size = sz ∧ va_P D vwCl [e0] U.heap ∧ va_K D vwCl (ty3 cy) U ∧ va_Nw (.methodLinkNest "LeftNumbers" 35 yX2_init "LeftNumbers") U ∧ va_AO "LeftNumbers$Value" U)) (va_Qv (fun u : (Nat → Nat) × St => u.1 0 = h0 ∧ fc u.2 5 25 ∧ u.2.1 0 7 = 0 ∧ u.2.1 0 8 = 0 ∧ ∀ i, i < 8 → u.2.1 5 i = 0) (fun u t => va_P D vwCl (wc cy u.1 u.2) t.heap ∧ va_K D vwCl (ty3 cy) t ∧ va_D (va_A [e0] sz) (wc cy u.1 u.2)) (va_A [e0] sz)) 131 1140 (va_A [e0] sz) := by
  refine Met.ofW (cc := cX3_init) (maxL := 2) (ret := none) (by decide +kernel) rfl ?_
  intro p e s m args below meth c s₁ B hml hv
  obtain ⟨rfl, hsz, hP, hK, hN, hO⟩ := hv
  have hx := B.exec
  have hb := B.bytes
  have hr := B.returns
  have hts0 := atoms_spec (ws := wz_X3_init) B.pre
  have hts : ∀ w ∈ wA, w.before _ s = true := fun w h => hts0 w (List.mem_cons_of_mem _ h)
  have hown : s.vm.findClass RX3 = some m.cls := findClass_of_methodNamed B.named
  have hlocks := B.notSynchronized
  have hin : meth.name = "<init>" := (name_of_methodNamed B.named B.method).1
  subst hsz
  have hD : va_D (va_A [e0] s.heap.size) [e0] := d1_self
  have hA : ∀ q : Nat, s.heap.size ≤ q → va_A [e0] s.heap.size q := fun q h => Or.inr h
  generalize hAe : va_A [e0] s.heap.size = A at hD hA ⊢
  have hS : va_S A s.heap s.heap [] := va_S.rf
  have hl := lv_entry ([.ref h0]) (n := 2) (Nat.le_of_ble_eq_true rfl)
  rw [lg_entry_eq]
  generalize (lg_sl ([.ref h0]) ++ List.replicate (2 - (lg_sl ([.ref h0])).length) Slot.unset).toArray = ls at hl ⊢
  have hl : lv_has ls 2 [(0, .ref h0)] := hl
  rw [he0] at hP hD
  have hP : va_P D vwCl [(h0, .inr (3, [.null, .null, .null, .null, .null, .null, .null, .int 0, .int 0]))] s.heap := hP
  refine lv_aload_n hx hb dX3_init_0 rfl (lv_at hl 0 rfl) ?_
  refine W.objInit hx hb hown (hts _ tw_13) (hts _ tw_14) (hts _ tw_15) rfl (by rw [hml]; exact hl.1) rfl dX3_init_1 (Nat.le_of_ble_eq_true rfl) (Nat.le_of_ble_eq_true rfl) ?_
  refine W.eq (g2 := F0 m 4 ls []) rfl ?_
  refine lv_aload_n hx hb dX3_init_4 rfl (lv_at hl 0 rfl) ?_
  refine va_new (ci := 1) (fs := [.null, .int 0, .int 0]) (C := RX1) (T := TX1) (N := 3) hx hb hts inA_X1 tyX1 tyX1_ok hown (hts _ tw_16) (hts _ tw_17) (hts _ tw_2) hK hP hD hS hA rfl (fun j hj => by rcases (show j = 0 ∨ j = 1 ∨ j = 2 by omega) with rfl | rfl | rfl <;> rfl) (by decide) (by decide) dX3_init_5 (fun f H hP hD hS => ?_)
  refine lv_dup hx hb dX3_init_8 rfl ?_
  have hFc := fr_last hD hS hA
  refine va_callv (va_runI (As := []) (rest := [.ref f, .ref h0]) ⟨hx, hb, hml, hown, hts⟩ (c_X1_init l D cy f H.size _ rfl) (cwI 0 hts (wA_c tw_20) rfl rfl rfl (hts _ tw_2) (hts _ tw_18) (hts _ tw_19) rfl hd_X1_init ⟨by decide, by decide⟩) ⟨fb_in, fun U hU hW => ⟨rfl, by rw [hU], by rw [hU]; exact sub_last hP, va_K.moved hW.alike hK⟩⟩ rfl rfl hl.1 rfl (lv_room (Nat.le_of_ble_eq_true rfl)) dX3_init_9 ⟨by decide, by decide⟩) hS (fun q _ h => hFc q h) hFc (fun u t H1 locs1 ht hvm hSF hB hz1 hk1 hS => ?_)
  obtain ⟨fp, SF⟩ := u
  obtain ⟨hP1, _, hD1⟩ := hB
  rw [ht] at hP1
  obtain ⟨hP, hD⟩ := jn_last hP hD hk1 hFc hP1 hD1
  generalize H1 = H at hP hS ⊢
  have hSF : fc SF 5 25 := hSF
  have hP : va_P D vwCl [(h0, .inr (3, [.null, .null, .null, .null, .null, .null, .null, .int 0, .int 0])), (f, .inr (1, [.ref fp, .int (SF.1 1 1), .int (SF.1 1 2)])), (fp, .inl (cy 1, 60, .inr (.inl (SF.2 2))))] H := hP
  have hD : va_D A [(h0, .inr (3, [.null, .null, .null, .null, .null, .null, .null, .int 0, .int 0])), (f, .inr (1, [.ref fp, .int (SF.1 1 1), .int (SF.1 1 2)])), (fp, .inl (cy 1, 60, .inr (.inl (SF.2 2))))] := hD
  refine W.widen (k := 2) (n := 63) (by decide) (by decide) ?_
  refine va_putF (D := D) (ci := 3) (v := .ref f) (ty := .object "LeftNumbers$Figures") (C := RX3) (T := TX3) (N := 9) hx hb hts inA_X3 tyX3 tyX3_ok nmX3 hown hK hP hD hS 0 rfl rfl 0 (by decide) (hts _ tw_98) (fun _ h9 => h9) rfl hin rfl (by decide +kernel) rfl rfl (Nat.le_of_ble_eq_true rfl) dX3_init_12 (fun H locs hP hD hS => ?_)
  have hP : va_P D vwCl [(h0, .inr (3, [.ref f, .null, .null, .null, .null, .null, .null, .int 0, .int 0])), (f, .inr (1, [.ref fp, .int (SF.1 1 1), .int (SF.1 1 2)])), (fp, .inl (cy 1, 60, .inr (.inl (SF.2 2))))] H := hP
  have hD : va_D A [(h0, .inr (3, [.ref f, .null, .null, .null, .null, .null, .null, .int 0, .int 0])), (f, .inr (1, [.ref fp, .int (SF.1 1 1), .int (SF.1 1 2)])), (fp, .inl (cy 1, 60, .inr (.inl (SF.2 2))))] := hD
  refine lv_aload_n hx hb dX3_init_15 rfl (lv_at hl 0 rfl) ?_
  refine va_new (ci := 0) (fs := [.null]) (C := RX0) (T := TX0) (N := 1) hx hb hts inA_X0 tyX0 tyX0_ok hown (hts _ tw_41) (hts _ tw_42) (hts _ tw_3) hK hP hD hS hA rfl (fun j hj => by rcases (show j = 0 by omega) with rfl; rfl) (by decide) (by decide) dX3_init_16 (fun ar H hP hD hS => ?_)
  refine lv_dup hx hb dX3_init_19 rfl ?_
  refine lv_aload_n hx hb dX3_init_20 rfl (lv_at hl 0 rfl) ?_
  refine va_get (D := D) (ci := 3) (v := .ref f) (C := RX3) (T := TX3) (N := 9) hx hb hts inA_X3 hown hK hP 0 rfl rfl 0 (by decide) (hts _ tw_98) (fun _ h9 => h9) rfl dX3_init_21 ?_
  have hFc := fr_last hD hS hA
  refine va_callv (va_runI (As := [.ref f]) (rest := [.ref ar, .ref h0]) ⟨hx, hb, hml, hown, hts⟩ (c_X0_init l D cy ar f H.size _ rfl) (cwI 1 hts (wA_c tw_45) rfl rfl rfl (hts _ tw_3) (hts _ tw_43) (hts _ tw_44) rfl hd_X0_init ⟨by decide, by decide⟩) ⟨fb_in, fun U hU hW => ⟨rfl, by rw [hU], by rw [hU]; exact sub_last hP, va_K.moved hW.alike hK⟩⟩ rfl rfl hl.1 rfl (lv_room (Nat.le_of_ble_eq_true rfl)) dX3_init_24 ⟨by decide, by decide⟩) hS (fun q _ h => hFc q h) hFc (fun u t H1 locs1 ht hvm hw hB hz1 hk1 hS => ?_)
  obtain ⟨hP1, _, hD1⟩ := hB
  rw [ht] at hP1
  obtain ⟨hP, hD⟩ := jn_last hP hD hk1 hFc hP1 hD1
  generalize H1 = H at hP hS ⊢
  have hP : va_P D vwCl [(h0, .inr (3, [.ref f, .null, .null, .null, .null, .null, .null, .int 0, .int 0])), (f, .inr (1, [.ref fp, .int (SF.1 1 1), .int (SF.1 1 2)])), (fp, .inl (cy 1, 60, .inr (.inl (SF.2 2)))), (ar, .inr (0, [.ref f]))] H := hP
  have hD : va_D A [(h0, .inr (3, [.ref f, .null, .null, .null, .null, .null, .null, .int 0, .int 0])), (f, .inr (1, [.ref fp, .int (SF.1 1 1), .int (SF.1 1 2)])), (fp, .inl (cy 1, 60, .inr (.inl (SF.2 2)))), (ar, .inr (0, [.ref f]))] := hD
  refine W.widen (k := 3) (n := 64) (by decide) (by decide) ?_
  refine va_putF (D := D) (ci := 3) (v := .ref ar) (ty := .object "LeftNumbers$Arithmetic") (C := RX3) (T := TX3) (N := 9) hx hb hts inA_X3 tyX3 tyX3_ok nmX3 hown hK hP hD hS 0 rfl rfl 1 (by decide) (hts _ tw_99) (fun _ h9 => h9) rfl hin rfl (by decide +kernel) rfl rfl (Nat.le_of_ble_eq_true rfl) dX3_init_27 (fun H locs hP hD hS => ?_)
  have hP : va_P D vwCl [(h0, .inr (3, [.ref f, .ref ar, .null, .null, .null, .null, .null, .int 0, .int 0])), (f, .inr (1, [.ref fp, .int (SF.1 1 1), .int (SF.1 1 2)])), (fp, .inl (cy 1, 60, .inr (.inl (SF.2 2)))), (ar, .inr (0, [.ref f]))] H := hP
  have hD : va_D A [(h0, .inr (3, [.ref f, .ref ar, .null, .null, .null, .null, .null, .int 0, .int 0])), (f, .inr (1, [.ref fp, .int (SF.1 1 1), .int (SF.1 1 2)])), (fp, .inl (cy 1, 60, .inr (.inl (SF.2 2)))), (ar, .inr (0, [.ref f]))] := hD
  refine lv_aload_n hx hb dX3_init_30 rfl (lv_at hl 0 rfl) ?_
  refine lv_bipush (v := 60) hx hb dX3_init_31 (by decide) ?_
  refine va_newq (n := 60) (N' := 60) hx hb hown (hts _ tw_51) hO hK hP hD hS hA (by decide) (by decide) (by decide) (by decide) (by decide) dX3_init_33 (fun nu cA H hK9 hP hD hS => ?_)
  have e9 := cy_V hK9
  subst e9
  have hP : va_P D vwCl [(h0, .inr (3, [.ref f, .ref ar, .null, .null, .null, .null, .null, .int 0, .int 0])), (f, .inr (1, [.ref fp, .int (SF.1 1 1), .int (SF.1 1 2)])), (fp, .inl (cy 1, 60, .inr (.inl (SF.2 2)))), (ar, .inr (0, [.ref f])), (nu, .inl (cy 2, 60, .inr (.inr (.inr (.inr (fun _ => none))))))] H := hP
  have hD : va_D A [(h0, .inr (3, [.ref f, .ref ar, .null, .null, .null, .null, .null, .int 0, .int 0])), (f, .inr (1, [.ref fp, .int (SF.1 1 1), .int (SF.1 1 2)])), (fp, .inl (cy 1, 60, .inr (.inl (SF.2 2)))), (ar, .inr (0, [.ref f])), (nu, .inl (cy 2, 60, .inr (.inr (.inr (.inr (fun _ => none))))))] := hD
  refine W.widen (k := 4) (n := 124) (by decide) (by decide) ?_
  refine va_putF (D := D) (ci := 3) (v := .ref nu) (ty := .array (.object "LeftNumbers$Value")) (C := RX3) (T := TX3) (N := 9) hx hb hts inA_X3 tyX3 tyX3_ok nmX3 hown hK hP hD hS 0 rfl rfl 2 (by decide) (hts _ tw_100) (fun _ h9 => h9) rfl hin rfl (by decide +kernel) rfl rfl (Nat.le_of_ble_eq_true rfl) dX3_init_36 (fun H locs hP hD hS => ?_)
  have hP : va_P D vwCl [(h0, .inr (3, [.ref f, .ref ar, .ref nu, .null, .null, .null, .null, .int 0, .int 0])), (f, .inr (1, [.ref fp, .int (SF.1 1 1), .int (SF.1 1 2)])), (fp, .inl (cy 1, 60, .inr (.inl (SF.2 2)))), (ar, .inr (0, [.ref f])), (nu, .inl (cy 2, 60, .inr (.inr (.inr (.inr (fun _ => none))))))] H := hP
  have hD : va_D A [(h0, .inr (3, [.ref f, .ref ar, .ref nu, .null, .null, .null, .null, .int 0, .int 0])), (f, .inr (1, [.ref fp, .int (SF.1 1 1), .int (SF.1 1 2)])), (fp, .inl (cy 1, 60, .inr (.inl (SF.2 2)))), (ar, .inr (0, [.ref f])), (nu, .inl (cy 2, 60, .inr (.inr (.inr (.inr (fun _ => none))))))] := hD
  refine lv_aload_n hx hb dX3_init_39 rfl (lv_at hl 0 rfl) ?_
  refine lv_bipush (v := 8) hx hb dX3_init_40 (by decide) ?_
  refine n_I (n := 8) (N' := 8) hx hb (hts _ tw_97) hK hP hD hS hA (by decide) (by decide) (by decide) (by decide) (by decide) dX3_init_42 (fun po H hP hD hS => ?_)
  have hP : va_P D vwCl [(h0, .inr (3, [.ref f, .ref ar, .ref nu, .null, .null, .null, .null, .int 0, .int 0])), (f, .inr (1, [.ref fp, .int (SF.1 1 1), .int (SF.1 1 2)])), (fp, .inl (cy 1, 60, .inr (.inl (SF.2 2)))), (ar, .inr (0, [.ref f])), (nu, .inl (cy 2, 60, .inr (.inr (.inr (.inr (fun _ => none)))))), (po, .inl (cy 0, 8, .inl (fun _ => 0)))] H := hP
  have hD : va_D A [(h0, .inr (3, [.ref f, .ref ar, .ref nu, .null, .null, .null, .null, .int 0, .int 0])), (f, .inr (1, [.ref fp, .int (SF.1 1 1), .int (SF.1 1 2)])), (fp, .inl (cy 1, 60, .inr (.inl (SF.2 2)))), (ar, .inr (0, [.ref f])), (nu, .inl (cy 2, 60, .inr (.inr (.inr (.inr (fun _ => none)))))), (po, .inl (cy 0, 8, .inl (fun _ => 0)))] := hD
  refine W.widen (k := 5) (n := 132) (by decide) (by decide) ?_
  refine va_putF (D := D) (ci := 3) (v := .ref po) (ty := .array .int) (C := RX3) (T := TX3) (N := 9) hx hb hts inA_X3 tyX3 tyX3_ok nmX3 hown hK hP hD hS 0 rfl rfl 3 (by decide) (hts _ tw_101) (fun _ h9 => h9) rfl hin rfl (by decide +kernel) rfl rfl (Nat.le_of_ble_eq_true rfl) dX3_init_44 (fun H locs hP hD hS => ?_)
  have hP : va_P D vwCl [(h0, .inr (3, [.ref f, .ref ar, .ref nu, .ref po, .null, .null, .null, .int 0, .int 0])), (f, .inr (1, [.ref fp, .int (SF.1 1 1), .int (SF.1 1 2)])), (fp, .inl (cy 1, 60, .inr (.inl (SF.2 2)))), (ar, .inr (0, [.ref f])), (nu, .inl (cy 2, 60, .inr (.inr (.inr (.inr (fun _ => none)))))), (po, .inl (cy 0, 8, .inl (fun _ => 0)))] H := hP
  have hD : va_D A [(h0, .inr (3, [.ref f, .ref ar, .ref nu, .ref po, .null, .null, .null, .int 0, .int 0])), (f, .inr (1, [.ref fp, .int (SF.1 1 1), .int (SF.1 1 2)])), (fp, .inl (cy 1, 60, .inr (.inl (SF.2 2)))), (ar, .inr (0, [.ref f])), (nu, .inl (cy 2, 60, .inr (.inr (.inr (.inr (fun _ => none)))))), (po, .inl (cy 0, 8, .inl (fun _ => 0)))] := hD
  refine lv_aload_n hx hb dX3_init_47 rfl (lv_at hl 0 rfl) ?_
  refine n_V ⟨hx, hb, hml, hown, hts⟩ hN hK hP hD hS hA (by decide) (by decide) (by decide) (by decide) hl.1 (Nat.le_of_ble_eq_true rfl) dX3_init_48 dX3_init_51 dX3_init_52 (fun v1 p1 H locs hP hD hS => ?_)
  have hP : va_P D vwCl [(h0, .inr (3, [.ref f, .ref ar, .ref nu, .ref po, .null, .null, .null, .int 0, .int 0])), (f, .inr (1, [.ref fp, .int (SF.1 1 1), .int (SF.1 1 2)])), (fp, .inl (cy 1, 60, .inr (.inl (SF.2 2)))), (ar, .inr (0, [.ref f])), (nu, .inl (cy 2, 60, .inr (.inr (.inr (.inr (fun _ => none)))))), (po, .inl (cy 0, 8, .inl (fun _ => 0))), (v1, .inr (2, [.ref p1, .int 0, .int 0, .int 0, .long 0, .int 0, .int 1, .int 0])), (p1, .inl (cy 0, 8, .inl (fun _ => 0)))] H := hP
  have hD : va_D A [(h0, .inr (3, [.ref f, .ref ar, .ref nu, .ref po, .null, .null, .null, .int 0, .int 0])), (f, .inr (1, [.ref fp, .int (SF.1 1 1), .int (SF.1 1 2)])), (fp, .inl (cy 1, 60, .inr (.inl (SF.2 2)))), (ar, .inr (0, [.ref f])), (nu, .inl (cy 2, 60, .inr (.inr (.inr (.inr (fun _ => none)))))), (po, .inl (cy 0, 8, .inl (fun _ => 0))), (v1, .inr (2, [.ref p1, .int 0, .int 0, .int 0, .long 0, .int 0, .int 1, .int 0])), (p1, .inl (cy 0, 8, .inl (fun _ => 0)))] := hD
  refine W.widen (k := 7) (n := 148) (by decide) (by decide) ?_
  refine va_putF (D := D) (ci := 3) (v := .ref v1) (ty := .object "LeftNumbers$Value") (C := RX3) (T := TX3) (N := 9) hx hb hts inA_X3 tyX3 tyX3_ok nmX3 hown hK hP hD hS 0 rfl rfl 4 (by decide) (hts _ tw_102) (fun _ h9 => h9) rfl hin rfl (by decide +kernel) rfl rfl (Nat.le_of_ble_eq_true rfl) dX3_init_55 (fun H locs hP hD hS => ?_)
  have hP : va_P D vwCl [(h0, .inr (3, [.ref f, .ref ar, .ref nu, .ref po, .ref v1, .null, .null, .int 0, .int 0])), (f, .inr (1, [.ref fp, .int (SF.1 1 1), .int (SF.1 1 2)])), (fp, .inl (cy 1, 60, .inr (.inl (SF.2 2)))), (ar, .inr (0, [.ref f])), (nu, .inl (cy 2, 60, .inr (.inr (.inr (.inr (fun _ => none)))))), (po, .inl (cy 0, 8, .inl (fun _ => 0))), (v1, .inr (2, [.ref p1, .int 0, .int 0, .int 0, .long 0, .int 0, .int 1, .int 0])), (p1, .inl (cy 0, 8, .inl (fun _ => 0)))] H := hP
  have hD : va_D A [(h0, .inr (3, [.ref f, .ref ar, .ref nu, .ref po, .ref v1, .null, .null, .int 0, .int 0])), (f, .inr (1, [.ref fp, .int (SF.1 1 1), .int (SF.1 1 2)])), (fp, .inl (cy 1, 60, .inr (.inl (SF.2 2)))), (ar, .inr (0, [.ref f])), (nu, .inl (cy 2, 60, .inr (.inr (.inr (.inr (fun _ => none)))))), (po, .inl (cy 0, 8, .inl (fun _ => 0))), (v1, .inr (2, [.ref p1, .int 0, .int 0, .int 0, .long 0, .int 0, .int 1, .int 0])), (p1, .inl (cy 0, 8, .inl (fun _ => 0)))] := hD
  refine lv_aload_n hx hb dX3_init_58 rfl (lv_at hl 0 rfl) ?_
  refine n_V ⟨hx, hb, hml, hown, hts⟩ hN hK hP hD hS hA (by decide) (by decide) (by decide) (by decide) hl.1 (Nat.le_of_ble_eq_true rfl) dX3_init_59 dX3_init_62 dX3_init_63 (fun v2 p2 H locs hP hD hS => ?_)
  have hP : va_P D vwCl [(h0, .inr (3, [.ref f, .ref ar, .ref nu, .ref po, .ref v1, .null, .null, .int 0, .int 0])), (f, .inr (1, [.ref fp, .int (SF.1 1 1), .int (SF.1 1 2)])), (fp, .inl (cy 1, 60, .inr (.inl (SF.2 2)))), (ar, .inr (0, [.ref f])), (nu, .inl (cy 2, 60, .inr (.inr (.inr (.inr (fun _ => none)))))), (po, .inl (cy 0, 8, .inl (fun _ => 0))), (v1, .inr (2, [.ref p1, .int 0, .int 0, .int 0, .long 0, .int 0, .int 1, .int 0])), (p1, .inl (cy 0, 8, .inl (fun _ => 0))), (v2, .inr (2, [.ref p2, .int 0, .int 0, .int 0, .long 0, .int 0, .int 1, .int 0])), (p2, .inl (cy 0, 8, .inl (fun _ => 0)))] H := hP
  have hD : va_D A [(h0, .inr (3, [.ref f, .ref ar, .ref nu, .ref po, .ref v1, .null, .null, .int 0, .int 0])), (f, .inr (1, [.ref fp, .int (SF.1 1 1), .int (SF.1 1 2)])), (fp, .inl (cy 1, 60, .inr (.inl (SF.2 2)))), (ar, .inr (0, [.ref f])), (nu, .inl (cy 2, 60, .inr (.inr (.inr (.inr (fun _ => none)))))), (po, .inl (cy 0, 8, .inl (fun _ => 0))), (v1, .inr (2, [.ref p1, .int 0, .int 0, .int 0, .long 0, .int 0, .int 1, .int 0])), (p1, .inl (cy 0, 8, .inl (fun _ => 0))), (v2, .inr (2, [.ref p2, .int 0, .int 0, .int 0, .long 0, .int 0, .int 1, .int 0])), (p2, .inl (cy 0, 8, .inl (fun _ => 0)))] := hD
  refine W.widen (k := 9) (n := 164) (by decide) (by decide) ?_
  refine va_putF (D := D) (ci := 3) (v := .ref v2) (ty := .object "LeftNumbers$Value") (C := RX3) (T := TX3) (N := 9) hx hb hts inA_X3 tyX3 tyX3_ok nmX3 hown hK hP hD hS 0 rfl rfl 5 (by decide) (hts _ tw_103) (fun _ h9 => h9) rfl hin rfl (by decide +kernel) rfl rfl (Nat.le_of_ble_eq_true rfl) dX3_init_66 (fun H locs hP hD hS => ?_)
  have hP : va_P D vwCl [(h0, .inr (3, [.ref f, .ref ar, .ref nu, .ref po, .ref v1, .ref v2, .null, .int 0, .int 0])), (f, .inr (1, [.ref fp, .int (SF.1 1 1), .int (SF.1 1 2)])), (fp, .inl (cy 1, 60, .inr (.inl (SF.2 2)))), (ar, .inr (0, [.ref f])), (nu, .inl (cy 2, 60, .inr (.inr (.inr (.inr (fun _ => none)))))), (po, .inl (cy 0, 8, .inl (fun _ => 0))), (v1, .inr (2, [.ref p1, .int 0, .int 0, .int 0, .long 0, .int 0, .int 1, .int 0])), (p1, .inl (cy 0, 8, .inl (fun _ => 0))), (v2, .inr (2, [.ref p2, .int 0, .int 0, .int 0, .long 0, .int 0, .int 1, .int 0])), (p2, .inl (cy 0, 8, .inl (fun _ => 0)))] H := hP
  have hD : va_D A [(h0, .inr (3, [.ref f, .ref ar, .ref nu, .ref po, .ref v1, .ref v2, .null, .int 0, .int 0])), (f, .inr (1, [.ref fp, .int (SF.1 1 1), .int (SF.1 1 2)])), (fp, .inl (cy 1, 60, .inr (.inl (SF.2 2)))), (ar, .inr (0, [.ref f])), (nu, .inl (cy 2, 60, .inr (.inr (.inr (.inr (fun _ => none)))))), (po, .inl (cy 0, 8, .inl (fun _ => 0))), (v1, .inr (2, [.ref p1, .int 0, .int 0, .int 0, .long 0, .int 0, .int 1, .int 0])), (p1, .inl (cy 0, 8, .inl (fun _ => 0))), (v2, .inr (2, [.ref p2, .int 0, .int 0, .int 0, .long 0, .int 0, .int 1, .int 0])), (p2, .inl (cy 0, 8, .inl (fun _ => 0)))] := hD
  refine lv_aload_n hx hb dX3_init_69 rfl (lv_at hl 0 rfl) ?_
  refine n_V ⟨hx, hb, hml, hown, hts⟩ hN hK hP hD hS hA (by decide) (by decide) (by decide) (by decide) hl.1 (Nat.le_of_ble_eq_true rfl) dX3_init_70 dX3_init_73 dX3_init_74 (fun v3 p3 H locs hP hD hS => ?_)
  have hP : va_P D vwCl [(h0, .inr (3, [.ref f, .ref ar, .ref nu, .ref po, .ref v1, .ref v2, .null, .int 0, .int 0])), (f, .inr (1, [.ref fp, .int (SF.1 1 1), .int (SF.1 1 2)])), (fp, .inl (cy 1, 60, .inr (.inl (SF.2 2)))), (ar, .inr (0, [.ref f])), (nu, .inl (cy 2, 60, .inr (.inr (.inr (.inr (fun _ => none)))))), (po, .inl (cy 0, 8, .inl (fun _ => 0))), (v1, .inr (2, [.ref p1, .int 0, .int 0, .int 0, .long 0, .int 0, .int 1, .int 0])), (p1, .inl (cy 0, 8, .inl (fun _ => 0))), (v2, .inr (2, [.ref p2, .int 0, .int 0, .int 0, .long 0, .int 0, .int 1, .int 0])), (p2, .inl (cy 0, 8, .inl (fun _ => 0))), (v3, .inr (2, [.ref p3, .int 0, .int 0, .int 0, .long 0, .int 0, .int 1, .int 0])), (p3, .inl (cy 0, 8, .inl (fun _ => 0)))] H := hP
  have hD : va_D A [(h0, .inr (3, [.ref f, .ref ar, .ref nu, .ref po, .ref v1, .ref v2, .null, .int 0, .int 0])), (f, .inr (1, [.ref fp, .int (SF.1 1 1), .int (SF.1 1 2)])), (fp, .inl (cy 1, 60, .inr (.inl (SF.2 2)))), (ar, .inr (0, [.ref f])), (nu, .inl (cy 2, 60, .inr (.inr (.inr (.inr (fun _ => none)))))), (po, .inl (cy 0, 8, .inl (fun _ => 0))), (v1, .inr (2, [.ref p1, .int 0, .int 0, .int 0, .long 0, .int 0, .int 1, .int 0])), (p1, .inl (cy 0, 8, .inl (fun _ => 0))), (v2, .inr (2, [.ref p2, .int 0, .int 0, .int 0, .long 0, .int 0, .int 1, .int 0])), (p2, .inl (cy 0, 8, .inl (fun _ => 0))), (v3, .inr (2, [.ref p3, .int 0, .int 0, .int 0, .long 0, .int 0, .int 1, .int 0])), (p3, .inl (cy 0, 8, .inl (fun _ => 0)))] := hD
  refine W.widen (k := 11) (n := 180) (by decide) (by decide) ?_
  refine va_putF (D := D) (ci := 3) (v := .ref v3) (ty := .object "LeftNumbers$Value") (C := RX3) (T := TX3) (N := 9) hx hb hts inA_X3 tyX3 tyX3_ok nmX3 hown hK hP hD hS 0 rfl rfl 6 (by decide) (hts _ tw_104) (fun _ h9 => h9) rfl hin rfl (by decide +kernel) rfl rfl (Nat.le_of_ble_eq_true rfl) dX3_init_77 (fun H locs hP hD hS => ?_)
  have hP : va_P D vwCl [(h0, .inr (3, [.ref f, .ref ar, .ref nu, .ref po, .ref v1, .ref v2, .ref v3, .int 0, .int 0])), (f, .inr (1, [.ref fp, .int (SF.1 1 1), .int (SF.1 1 2)])), (fp, .inl (cy 1, 60, .inr (.inl (SF.2 2)))), (ar, .inr (0, [.ref f])), (nu, .inl (cy 2, 60, .inr (.inr (.inr (.inr (fun _ => none)))))), (po, .inl (cy 0, 8, .inl (fun _ => 0))), (v1, .inr (2, [.ref p1, .int 0, .int 0, .int 0, .long 0, .int 0, .int 1, .int 0])), (p1, .inl (cy 0, 8, .inl (fun _ => 0))), (v2, .inr (2, [.ref p2, .int 0, .int 0, .int 0, .long 0, .int 0, .int 1, .int 0])), (p2, .inl (cy 0, 8, .inl (fun _ => 0))), (v3, .inr (2, [.ref p3, .int 0, .int 0, .int 0, .long 0, .int 0, .int 1, .int 0])), (p3, .inl (cy 0, 8, .inl (fun _ => 0)))] H := hP
  have hD : va_D A [(h0, .inr (3, [.ref f, .ref ar, .ref nu, .ref po, .ref v1, .ref v2, .ref v3, .int 0, .int 0])), (f, .inr (1, [.ref fp, .int (SF.1 1 1), .int (SF.1 1 2)])), (fp, .inl (cy 1, 60, .inr (.inl (SF.2 2)))), (ar, .inr (0, [.ref f])), (nu, .inl (cy 2, 60, .inr (.inr (.inr (.inr (fun _ => none)))))), (po, .inl (cy 0, 8, .inl (fun _ => 0))), (v1, .inr (2, [.ref p1, .int 0, .int 0, .int 0, .long 0, .int 0, .int 1, .int 0])), (p1, .inl (cy 0, 8, .inl (fun _ => 0))), (v2, .inr (2, [.ref p2, .int 0, .int 0, .int 0, .long 0, .int 0, .int 1, .int 0])), (p2, .inl (cy 0, 8, .inl (fun _ => 0))), (v3, .inr (2, [.ref p3, .int 0, .int 0, .int 0, .long 0, .int 0, .int 1, .int 0])), (p3, .inl (cy 0, 8, .inl (fun _ => 0)))] := hD
  refine lv_aload_n hx hb dX3_init_80 rfl (lv_at hl 0 rfl) ?_
  refine lv_iconst (v := 0) hx hb dX3_init_81 (by decide) ?_
  refine va_put (D := D) (ci := 3) (v := .int 0) (ty := .int) (C := RX3) (T := TX3) (N := 9) hx hb hts inA_X3 tyX3 tyX3_ok nmX3 hown hK hP hD hS 0 rfl rfl 7 (by decide) (hts _ tw_105) (fun _ h9 => h9) rfl (by decide +kernel) rfl rfl (Nat.le_of_ble_eq_true rfl) dX3_init_82 (fun H locs hP hD hS => ?_)
  have hP : va_P D vwCl [(h0, .inr (3, [.ref f, .ref ar, .ref nu, .ref po, .ref v1, .ref v2, .ref v3, .int 0, .int 0])), (f, .inr (1, [.ref fp, .int (SF.1 1 1), .int (SF.1 1 2)])), (fp, .inl (cy 1, 60, .inr (.inl (SF.2 2)))), (ar, .inr (0, [.ref f])), (nu, .inl (cy 2, 60, .inr (.inr (.inr (.inr (fun _ => none)))))), (po, .inl (cy 0, 8, .inl (fun _ => 0))), (v1, .inr (2, [.ref p1, .int 0, .int 0, .int 0, .long 0, .int 0, .int 1, .int 0])), (p1, .inl (cy 0, 8, .inl (fun _ => 0))), (v2, .inr (2, [.ref p2, .int 0, .int 0, .int 0, .long 0, .int 0, .int 1, .int 0])), (p2, .inl (cy 0, 8, .inl (fun _ => 0))), (v3, .inr (2, [.ref p3, .int 0, .int 0, .int 0, .long 0, .int 0, .int 1, .int 0])), (p3, .inl (cy 0, 8, .inl (fun _ => 0)))] H := hP
  have hD : va_D A [(h0, .inr (3, [.ref f, .ref ar, .ref nu, .ref po, .ref v1, .ref v2, .ref v3, .int 0, .int 0])), (f, .inr (1, [.ref fp, .int (SF.1 1 1), .int (SF.1 1 2)])), (fp, .inl (cy 1, 60, .inr (.inl (SF.2 2)))), (ar, .inr (0, [.ref f])), (nu, .inl (cy 2, 60, .inr (.inr (.inr (.inr (fun _ => none)))))), (po, .inl (cy 0, 8, .inl (fun _ => 0))), (v1, .inr (2, [.ref p1, .int 0, .int 0, .int 0, .long 0, .int 0, .int 1, .int 0])), (p1, .inl (cy 0, 8, .inl (fun _ => 0))), (v2, .inr (2, [.ref p2, .int 0, .int 0, .int 0, .long 0, .int 0, .int 1, .int 0])), (p2, .inl (cy 0, 8, .inl (fun _ => 0))), (v3, .inr (2, [.ref p3, .int 0, .int 0, .int 0, .long 0, .int 0, .int 1, .int 0])), (p3, .inl (cy 0, 8, .inl (fun _ => 0)))] := hD
  refine lv_aload_n hx hb dX3_init_85 rfl (lv_at hl 0 rfl) ?_
  refine lv_iconst (v := 0) hx hb dX3_init_86 (by decide) ?_
  refine va_put (D := D) (ci := 3) (v := .int 0) (ty := .boolean) (C := RX3) (T := TX3) (N := 9) hx hb hts inA_X3 tyX3 tyX3_ok nmX3 hown hK hP hD hS 0 rfl rfl 8 (by decide) (hts _ tw_106) (fun _ h9 => h9) rfl (by decide +kernel) rfl rfl (Nat.le_of_ble_eq_true rfl) dX3_init_87 (fun H locs hP hD hS => ?_)
  have hP : va_P D vwCl [(h0, .inr (3, [.ref f, .ref ar, .ref nu, .ref po, .ref v1, .ref v2, .ref v3, .int 0, .int 0])), (f, .inr (1, [.ref fp, .int (SF.1 1 1), .int (SF.1 1 2)])), (fp, .inl (cy 1, 60, .inr (.inl (SF.2 2)))), (ar, .inr (0, [.ref f])), (nu, .inl (cy 2, 60, .inr (.inr (.inr (.inr (fun _ => none)))))), (po, .inl (cy 0, 8, .inl (fun _ => 0))), (v1, .inr (2, [.ref p1, .int 0, .int 0, .int 0, .long 0, .int 0, .int 1, .int 0])), (p1, .inl (cy 0, 8, .inl (fun _ => 0))), (v2, .inr (2, [.ref p2, .int 0, .int 0, .int 0, .long 0, .int 0, .int 1, .int 0])), (p2, .inl (cy 0, 8, .inl (fun _ => 0))), (v3, .inr (2, [.ref p3, .int 0, .int 0, .int 0, .long 0, .int 0, .int 1, .int 0])), (p3, .inl (cy 0, 8, .inl (fun _ => 0)))] H := hP
  have hD : va_D A [(h0, .inr (3, [.ref f, .ref ar, .ref nu, .ref po, .ref v1, .ref v2, .ref v3, .int 0, .int 0])), (f, .inr (1, [.ref fp, .int (SF.1 1 1), .int (SF.1 1 2)])), (fp, .inl (cy 1, 60, .inr (.inl (SF.2 2)))), (ar, .inr (0, [.ref f])), (nu, .inl (cy 2, 60, .inr (.inr (.inr (.inr (fun _ => none)))))), (po, .inl (cy 0, 8, .inl (fun _ => 0))), (v1, .inr (2, [.ref p1, .int 0, .int 0, .int 0, .long 0, .int 0, .int 1, .int 0])), (p1, .inl (cy 0, 8, .inl (fun _ => 0))), (v2, .inr (2, [.ref p2, .int 0, .int 0, .int 0, .long 0, .int 0, .int 1, .int 0])), (p2, .inl (cy 0, 8, .inl (fun _ => 0))), (v3, .inr (2, [.ref p3, .int 0, .int 0, .int 0, .long 0, .int 0, .int 1, .int 0])), (p3, .inl (cy 0, 8, .inl (fun _ => 0)))] := hD
  refine lv_iconst (v := 0) hx hb dX3_init_90 (by decide) ?_
  refine lv_istore_n (lv' := [(1, .int 0), (0, .ref h0)]) hx hb dX3_init_91 rfl hl (by decide) rfl (fun ls hl => ?_)
  have ef : (fun _ => none : Nat → Option Nat) = fl [] := by funext k; simp [fl]
  rw [ef] at hP hD
  exact b_X3_init_92 hSF ⟨hx, hb, hml, hown, hts⟩ hr hlocks hK hN hA 60 [] H locs ls rfl hP hD hS (lv_sub hl [1, 0] rfl)
