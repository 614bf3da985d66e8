/- the law's opening: both objects made -/
theorem law_K {s : State} {args : Array Value} (hts : ∀ z ∈ Tg, z.before args s = true) : ∃ (D : va_G) (cI cZ : ClassId), va_K D classes [(cI, .int), (cZ, .boolean)] s := by
  obtain ⟨c0, i0, k0⟩ := u_known (C := R_S) (T := F_S) (N := 3) (n := 3) hts lw_S (hts _ q_16)
  obtain ⟨c1, i1, k1⟩ := u_known (C := R_T) (T := F_T) (N := 15) (n := 15) hts lw_T (hts _ q_25)
  obtain ⟨c2, i2, k2⟩ := u_known (C := R_O) (T := F_O) (N := 15) (n := 15) hts lw_O (hts _ q_9)
  obtain ⟨c3, i3, k3⟩ := u_known (C := R_M) (T := F_M) (N := 30) (n := 30) hts lw_M (hts _ q_438)
  obtain ⟨cI, kI, pI, a1, a2, a3⟩ := Cond.arrayClass_spec (hts _ q_23)
  obtain ⟨cZ, kZ, pZ, b1, b2, b3⟩ := Cond.arrayClass_spec (hts _ q_473)
  refine ⟨(fun k => if k = 0 then c0 else if k = 1 then c1 else if k = 2 then c2 else c3, fun k => if k = 0 then i0 else if k = 1 then i1 else if k = 2 then i2 else i3), cI, cZ, fun k q hq => ?_, fun k q hq => ?_⟩
  · match k, hq with
    | 0, hq => cases hq; exact k0
    | 1, hq => cases hq; exact k1
    | 2, hq => cases hq; exact k2
    | 3, hq => cases hq; exact k3
    | k + 4, hq => simp [classes] at hq
  · match k, hq with
    | 0, hq => cases hq; exact ⟨fun n z => ⟨fun k h => (by cases h), kI, a2, pI, a3⟩, a1⟩
    | 1, hq => cases hq; exact ⟨fun n z => ⟨fun k h => (by cases h), kZ, b2, pZ, b3⟩, b1⟩
    | k + 2, hq => simp at hq
theorem law_nest {s : State} {args : Array Value} (hts : ∀ w ∈ lw_tbl, w.before args s = true) : Nwf s ∧ NwS s :=
  ⟨va_Nw.of rfl (hts (.methodLinkNest R_T 158 y_O_factorial R_O) (List.mem_append_right _ (List.mem_of_getElem? (i := 323) (by decide +kernel)))), va_Nw.of rfl (hts (.methodLinkNest R_O 34 y_S_init R_O) (List.mem_append_right _ (List.mem_of_getElem? (i := 18) (by decide +kernel))))⟩
theorem fld_same {Y Y2 : Wx} {f : Nat → Int32} {fs : List (Option Nat)} (h : ∀ j, some j ∈ fs → adr Y j = adr Y2 j) : fs.mapIdx (fldV Y f) = fs.mapIdx (fldV Y2 f) := by
  apply List.ext_getElem?
  intro i
  rw [List.getElem?_mapIdx, List.getElem?_mapIdx]
  cases hq : fs[i]? with
  | none => rfl
  | some o =>
    cases o with
    | none => rfl
    | some j =>
      show some (Value.ref (adr Y j)) = some (Value.ref (adr Y2 j))
      rw [h j (List.mem_of_getElem? hq)]
theorem cell_same {Y Y2 : Wx} {σ : Mem} {k : Nat} (h : ∀ j, some j ∈ (shp k).2.2 → adr Y j = adr Y2 j) (e1 : Y.2.1 = Y2.2.1) (e2 : Y.2.2.1 = Y2.2.2.1) : cellE Y σ k = cellE Y2 σ k := by
  unfold cellE
  generalize shp k = q at h ⊢
  obtain ⟨t, L, fs⟩ := q
  rcases t with _ | _ | t
  · show (Sum.inl (Y.2.1, L, .inl (σ k)) : va_E) = .inl (Y2.2.1, L, .inl (σ k))
    rw [e1]
  · show (Sum.inl (Y.2.2.1, L, .inl (σ k)) : va_E) = .inl (Y2.2.2.1, L, .inl (σ k))
    rw [e2]
  · show (Sum.inr (L, fs.mapIdx (fldV Y (σ k))) : va_E) = .inr (L, fs.mapIdx (fldV Y2 (σ k)))
    rw [fld_same h]
def shOk (w : Nat) (o : Option Nat) : Bool := match o with
  | none => true
  | some j => decide (wlo w ≤ j ∧ j < wlo w + wn w)
theorem shp_in0 : ∀ k, k < 43 → (shp k).2.2.all (shOk 0) = true := by decide +kernel
theorem shp_in1 : ∀ k, k < 23 → (shp (43 + k)).2.2.all (shOk 1) = true := by decide +kernel
theorem wd_same {Y Y2 : Wx} {σ : Mem} {w : Nat} (hw : w = 0 ∨ w = 1) (h : ∀ j, inW w j → adr Y j = adr Y2 j) (e1 : Y.2.1 = Y2.2.1) (e2 : Y.2.2.1 = Y2.2.2.1) : wd Y w σ = wd Y2 w σ := by
  unfold wd
  refine List.map_congr_left (fun i hi => ?_)
  have hi := List.mem_range.mp hi
  have hin : inW w (wlo w + i) := ⟨by omega, by omega⟩
  have hs : (shp (wlo w + i)).2.2.all (shOk w) = true := by
    rcases hw with rfl | rfl
    · have h0 : i < 43 := hi
      have := shp_in0 i h0
      rw [show wlo 0 + i = i by show 0 + i = i; omega]
      exact this
    · exact shp_in1 i hi
  have hj2 : ∀ j, some j ∈ (shp (wlo w + i)).2.2 → adr Y j = adr Y2 j := fun j hj => by
    have h9 : decide (wlo w ≤ j ∧ j < wlo w + wn w) = true := List.all_eq_true.mp hs _ hj
    have h8 : wlo w ≤ j ∧ j < wlo w + wn w := of_decide_eq_true h9
    exact h j h8
  rw [h _ hin, cell_same hj2 e1 e2]
theorem P_left {D : va_G} {cl : List vw_C} {ws wt : va_W} {H : Heap} (h : va_P D cl (ws ++ wt) H) : va_P D cl ws H := fun k q hk => h k q (by rw [List.getElem?_append_left (List.getElem?_eq_some_iff.mp hk).1]; exact hk)
theorem P_right {D : va_G} {cl : List vw_C} {ws wt : va_W} {H : Heap} (h : va_P D cl (ws ++ wt) H) : va_P D cl wt H := fun k q hk => h (ws.length + k) q (by rw [List.getElem?_append_right (by omega), Nat.add_sub_cancel_left]; exact hk)
theorem D_left {A : Nat → Prop} {ws wt : va_W} (h : va_D A (ws ++ wt)) : va_D A ws := ⟨fun i j p q hi hj e => h.1 i j p q (by rw [List.getElem?_append_left (List.getElem?_eq_some_iff.mp hi).1]; exact hi) (by rw [List.getElem?_append_left (List.getElem?_eq_some_iff.mp hj).1]; exact hj) e, fun k q hk => h.2 k q (by rw [List.getElem?_append_left (List.getElem?_eq_some_iff.mp hk).1]; exact hk)⟩
theorem D_right {A : Nat → Prop} {ws wt : va_W} (h : va_D A (ws ++ wt)) : va_D A wt := ⟨fun i j p q hi hj e => by
    have := h.1 (ws.length + i) (ws.length + j) p q (by rw [List.getElem?_append_right (by omega), Nat.add_sub_cancel_left]; exact hi) (by rw [List.getElem?_append_right (by omega), Nat.add_sub_cancel_left]; exact hj) e
    omega, fun k q hk => h.2 (ws.length + k) q (by rw [List.getElem?_append_right (by omega), Nat.add_sub_cancel_left]; exact hk)⟩
theorem D_apart {A : Nat → Prop} {ws wt : va_W} (h : va_D A (ws ++ wt)) {i j : Nat} {p q : Nat × va_E} (hi : ws[i]? = some p) (hj : wt[j]? = some q) : p.1 ≠ q.1 := fun e => by
  have h1 := (List.getElem?_eq_some_iff.mp hi).1
  have := h.1 i (ws.length + j) p q (by rw [List.getElem?_append_left h1]; exact hi) (by rw [List.getElem?_append_right (by omega), Nat.add_sub_cancel_left]; exact hj) e
  omega
theorem o_call {p : Program} {l : Launch} {e : Env} {R : Room} {s : State} {m : MethodId} {args : Array Value} {below : List Frame} {meth : Method} {c : Code} {cc : ByteArray} {nL : Nat} {own : String} {H : Heap} {locs : List Jvm.Loc} {cells slots : Nat} {Q : State → Prop} {ls : Array Slot} {pc : Nat} {Y : Wx} {A : Nat → Prop}
    (hx : p.tables.exec = Jvm.exec) (hb : c.code = cc) (hml : c.maxLocals = nL) (ho : s.vm.findClass own = some m.cls) (hts : ∀ z ∈ Tg, z.before args s = true) (hK : va_K Y.1 classes (tysY Y) s) (hA : ∀ q, s.heap.size ≤ q → A q)
    {y : MethodName} {b : ByteArray} {nC idx : Nat} {R1 : Room} {mc ms q : Nat} {e0 : va_E} {E : Nat → State → Prop} {B : va_W → Prop} {wr : va_W} (rest : List Value) (hM : Cn l Y y b nC R1 mc ms q e0 E B) (hEb : ∀ (sz : Nat) (a : Array Value) (U : State) g mk, E sz U → E sz (U.calling g mk a)) (hE : ∀ U : State, U.heap = H → s.WarmedH U.vm → E H.size U) (hc : Cond.code y b nC none ∈ Tg) (h1 : Cond.initialized y.cls ∈ Tg) (h2 : Cond.methodLink own idx y ∈ Tg) (h3 : Cond.instanceMethod y ∈ Tg) (hy : y.name = "<init>") (hd : y.cls ≠ "java/lang/invoke/MethodHandle" ∧ y.cls ≠ "java/lang/invoke/VarHandle" ∧ (parseMethodDescriptor y.desc).map (fun d => d.parameters.length) = some 0) (hr : R1.frames + 1 ≤ R.frames ∧ 8 + (nC + 11) + R1.locals ≤ R.locals) (hmc : R1.cells = mc) (hms : R1.slots = ms) (hf : cells + mc ≤ R.cells ∧ slots + ms ≤ R.slots) (hrs : (rest.map fun v => v.category).sum ≤ 8) (hdg : decode cc pc = .ok (.invokespecial idx, 3)) (hlz : ls.size = nL)
    (hP : va_P Y.1 classes (wr ++ [(q, e0)]) H) (hD : va_D A (wr ++ [(q, e0)])) (hS : va_S A s.heap H locs)
    (kk : ∀ (w1 : va_W) (H1 : Heap) (locs1 : List Jvm.Loc), B w1 → va_P Y.1 classes (wr ++ w1) H1 → va_D A (wr ++ w1) → va_S A s.heap H1 locs1 → W p l e R s m args below meth c H1 locs1 (cells + mc) (slots + ms) Q (F0 m (pc + 3) ls rest)) : W p l e R s m args below meth c H locs cells slots Q (F0 m pc ls (.ref q :: rest)) := by
  have hG : GoodIn Tg (.code y b nC none :: Tg) := tg_in (fun _ h => h) (fun z hz => by
    rcases List.mem_cons.mp hz with h | h
    · rw [h]; exact hc
    · exact h)
  have hP0 : va_P Y.1 classes [(q, e0)] H := hP.sub [wr.length] (by simp)
  refine n_run (va_runI (As := []) (rest := rest) ⟨hx, hb, hml, ho, hts⟩ (hM H.size) (cwI 0 hts hG rfl hmc hms (hts _ h1) (hts _ h2) (hts _ h3) hy hd hr) ⟨fun a U g mk z => ?_, fun U hU hW => ⟨rfl, by rw [hU], by rw [hU]; exact hP0, va_K.moved hW.alike hK, hE U hU hW⟩⟩ rfl rfl hlz rfl (lv_room hrs) hdg hf) hP hD hS hA kk
  obtain ⟨z0, z1, z2, z3, z4⟩ := z
  exact ⟨z0, z1, z2, va_K.moved (u := U) (U := U.calling g mk a) (Vm.Alike.refl U.vm) z3, hEb _ a U g mk z4⟩
