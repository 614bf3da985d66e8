section
variable {X : Cx} {Y : Wx} {A : Nat → Prop} {cc : ByteArray} {nL : Nat} {own : String} {R0 : Room} {ws : va_W} {cells slots : Nat} {lv : List (Nat × Value)} {pc : Nat} {st : List Value}
theorem n_istore_n (hX : Fc X Y A cc nL own R0) {j : Fin 4} {x : Int32} (lf : List (Nat × Value)) (hd : decode cc pc = .ok (.istore_n j, 1)) (hn : j.val < nL) (hl2 : (j.val, Value.int x) :: lv.filter (fun q => !(q.1 == j.val) && !(q.1 + 1 == j.val && q.2.category == 2)) = lf) (k : Gc X Y A ws cells slots lf (pc + 1) st) : Gc X Y A ws cells slots lv pc (.int x :: st) := by
  obtain ⟨p, l, e, R, s, m, args, below, meth, c, Q⟩ := X
  obtain ⟨hx, hb, hml, ho, hts, hK, hA, hR, hini⟩ := hX
  intro H locs ls hP hD hS hl
  rw [hml] at hl
  exact lv_istore_n hx hb hd rfl hl hn hl2 (fun ls2 hl3 => k H locs ls2 hP hD hS (by rw [hml]; exact hl3))
theorem n_iload_n (hX : Fc X Y A cc nL own R0) {j : Fin 4} {x : Int32} (hd : decode cc pc = .ok (.iload_n j, 1)) (q : Nat) (hq : lv[q]? = some ((j : Nat), .int x)) (k : Gc X Y A ws cells slots lv (pc + 1) (.int x :: st)) : Gc X Y A ws cells slots lv pc st := by
  obtain ⟨p, l, e, R, s, m, args, below, meth, c, Q⟩ := X
  intro H locs ls hP hD hS hl
  exact lv_iload_n hX.1 hX.2.1 hd rfl (lv_at hl q hq) (k H locs ls hP hD hS hl)
theorem n_icmp_ge (hX : Fc X Y A cc nL own R0) {x y : Int32} {off : Int} (tgt : Nat) (hd : decode cc pc = .ok (.if_icmp .ge off, 3)) (ht : (pc : Int) + off = (tgt : Int)) (kt : y ≤ x → Gc X Y A ws cells slots lv tgt st) (kf : ¬ y ≤ x → Gc X Y A ws cells slots lv (pc + 3) st) : Gc X Y A ws cells slots lv pc (.int y :: .int x :: st) := by
  obtain ⟨p, l, e, R, s, m, args, below, meth, c, Q⟩ := X
  intro H locs ls hP hD hS hl
  exact lv_icmp_ge hX.1 hX.2.1 hd ht (fun h => kt h H locs ls hP hD hS hl) (fun h => kf h H locs ls hP hD hS hl)
theorem n_ishl (hX : Fc X Y A cc nL own R0) {x y : Int32} (hd : decode cc pc = .ok (.ishl, 1)) (k : Gc X Y A ws cells slots lv (pc + 1) (.int (x <<< (y &&& 31)) :: st)) : Gc X Y A ws cells slots lv pc (.int y :: .int x :: st) := by
  obtain ⟨p, l, e, R, s, m, args, below, meth, c, Q⟩ := X
  intro H locs ls hP hD hS hl
  exact lv_ishl hX.1 hX.2.1 hd (k H locs ls hP hD hS hl)
theorem n_goto (hX : Fc X Y A cc nL own R0) {off : Int} (tgt : Nat) (hd : decode cc pc = .ok (.goto off, 3)) (ht : (pc : Int) + off = (tgt : Int)) (k : Gc X Y A ws cells slots lv tgt st) : Gc X Y A ws cells slots lv pc st := by
  obtain ⟨p, l, e, R, s, m, args, below, meth, c, Q⟩ := X
  intro H locs ls hP hD hS hl
  exact lv_goto hX.1 hX.2.1 hd ht (k H locs ls hP hD hS hl)
theorem n_iinc (hX : Fc X Y A cc nL own R0) {j : Nat} {n : Int} {x : Int32} (v : Int32) (lf : List (Nat × Value)) (hd : decode cc pc = .ok (.iinc j n, 3)) (q : Nat) (hq : lv[q]? = some (j, .int x)) (hv : x + Int32.ofInt n = v) (hn : j < nL) (hl2 : (j, Value.int v) :: lv.filter (fun q => !(q.1 == j) && !(q.1 + 1 == j && q.2.category == 2)) = lf) (k : Gc X Y A ws cells slots lf (pc + 3) st) : Gc X Y A ws cells slots lv pc st := by
  obtain ⟨p, l, e, R, s, m, args, below, meth, c, Q⟩ := X
  obtain ⟨hx, hb, hml, ho, hts, hK, hA, hR, hini⟩ := hX
  intro H locs ls hP hD hS hl
  rw [hml] at hl
  exact lv_iinc hx hb hd hl hq hv hn hl2 (fun ls2 hl3 => k H locs ls2 hP hD hS (by rw [hml]; exact hl3))
theorem n_getR (hX : Fc X Y A cc nL own R0) {idx ci i a q : Nat} {fs : List Value} {tl : va_W} (hl1 : FLok own idx ci i) (hf : fs[i]? = some (.ref q)) (hd : decode cc pc = .ok (.getfield idx, 3)) (k : Gc X Y A ((a, .inr (ci, fs)) :: tl) cells slots lv (pc + 3) (.ref q :: st)) : Gc X Y A ((a, .inr (ci, fs)) :: tl) cells slots lv pc (.ref a :: st) := by
  obtain ⟨p, l, e, R, s, m, args, below, meth, c, Q⟩ := X
  obtain ⟨hx, hb, hml, ho, hts, hK, hA, hR, hini⟩ := hX
  obtain ⟨C, T, N, ty0, h1, h2, h3, h4, h5, h6⟩ := hl1
  intro H locs ls hP hD hS hl
  exact va_get hx hb hts h3 ho hK hP 0 rfl h1 i h2 (hts _ h4) (fun _ h => h) (v := .ref q) hf hd (k H locs ls hP hD hS hl)
def Rnc (X : Cx) (Y : Wx) (A : Nat → Prop) (mc ms : Nat) (B : va_W → Prop) : Prop := match X with
  | (p, l, e, R, s, m, args, below, meth, c, Q) => meth.sig.returnType = none ∧ meth.locks = false ∧ Q = MQ below (va_Qv (S := va_W) B (fun w t => va_P Y.1 classes w t.heap ∧ va_D A w) A) args s mc ms A
theorem n_return (hX : Fc X Y A cc nL own R0) {mc ms : Nat} {B : va_W → Prop} (hR : Rnc X Y A mc ms B) (hB : B ws) (h1 : cells ≤ mc) (h2 : slots ≤ ms) (hd : decode cc pc = .ok (.return_, 1)) : Gc X Y A ws cells slots lv pc [] := by
  obtain ⟨p, l, e, R, s, m, args, below, meth, c, Q⟩ := X
  obtain ⟨r1, r2, r3⟩ := hR
  subst r3
  intro H locs ls hP hD hS hl
  refine W.widen (k := mc) (n := ms) h1 h2 ?_
  exact W.vret hX.1 hX.2.1 r1 (fun t ht hW => ⟨⟨ws, rfl, hB, by rw [ht]; exact hP, hD⟩, hS.F ht⟩) hS.2.2 hd (hlocks := r2)
end
def Cn (l : Launch) (Y : Wx) (y : MethodName) (b : ByteArray) (nL : Nat) (R0 : Room) (mc ms : Nat) (h0 : Nat) (e0 : va_E) (E : Nat → State → Prop) (B : va_W → Prop) : Prop := ∀ sz : Nat, Met l y (.code y b nL none :: Tg) R0 (va_Pc [.ref h0] (fun U => U.heap.size = sz ∧ va_P Y.1 classes [(h0, e0)] U.heap ∧ va_K Y.1 classes (tysY Y) U ∧ E sz U)) (va_Qv (S := va_W) B (fun w t => va_P Y.1 classes w t.heap ∧ va_D (va_A [(h0, e0)] sz) w) (va_A [(h0, e0)] sz)) mc ms (va_A [(h0, e0)] sz)
theorem d_one {A : Nat → Prop} {h0 : Nat} {e0 : va_E} (h : A h0) : va_D A [(h0, e0)] := by
  refine ⟨fun i j p q hi hj _ => ?_, fun k q hk => ?_⟩
  · have h1 := (List.getElem?_eq_some_iff.mp hi).1
    have h2 := (List.getElem?_eq_some_iff.mp hj).1
    simp at h1 h2
    omega
  · have h1 := (List.getElem?_eq_some_iff.mp hk).1
    simp at h1
    subst h1
    cases hk
    exact h
theorem cn_of {l : Launch} {Y : Wx} {y : MethodName} {b : ByteArray} {nL : Nat} {R0 : Room} {mc ms : Nat} {h0 : Nat} {e0 : va_E} {E : Nat → State → Prop} {B : va_W → Prop} (hy : plainName y.cls = true) (hyn : y.name = "<init>") (hn : 1 ≤ nL)
    (h : ∀ X : Cx, X.2.1 = l → Fc X Y (va_A [(h0, e0)] X.2.2.2.2.1.heap.size) b nL y.cls R0 → Rnc X Y (va_A [(h0, e0)] X.2.2.2.2.1.heap.size) mc ms B → E X.2.2.2.2.1.heap.size X.2.2.2.2.1 → Gc X Y (va_A [(h0, e0)] X.2.2.2.2.1.heap.size) [(h0, e0)] 0 0 [(0, .ref h0)] 0 []) : Cn l Y y b nL R0 mc ms h0 e0 E B := by
  intro sz
  refine Met.ofW (cc := b) (maxL := nL) (ret := none) hy rfl ?_
  intro p e s m args below meth c s₁ Bo hml hv
  obtain ⟨rfl, hsz, hP, hK, hE⟩ := hv
  subst hsz
  have hts := atoms_spec (ws := .code y b nL none :: Tg) Bo.pre
  have hown : s.vm.findClass y.cls = some m.cls := findClass_of_methodNamed Bo.named
  have hin : meth.name = "<init>" := by rw [(name_of_methodNamed Bo.named Bo.method).1, hyn]
  have hl := lv_entry [.ref h0] (n := nL) hn
  rw [lg_entry_eq]
  exact h (p, l, e, R0, s, m, [Value.ref h0].toArray, below, meth, c, MQ below (va_Qv (S := va_W) B (fun w t => va_P Y.1 classes w t.heap ∧ va_D (va_A [(h0, e0)] s.heap.size) w) (va_A [(h0, e0)] s.heap.size)) [Value.ref h0].toArray s mc ms (va_A [(h0, e0)] s.heap.size)) rfl ⟨Bo.exec, Bo.bytes, hml, hown, fun z hz => hts z (List.mem_cons_of_mem _ hz), hK, fun q hq => Or.inr hq, rfl, hin⟩ ⟨Bo.returns, Bo.notSynchronized, rfl⟩ hE s.heap [] _ hP (d_one (Or.inl ⟨0, e0, rfl⟩)) va_S.rf (by rw [hml]; exact hl)
theorem nd_nd : ∀ {l : List Nat}, l.Nodup → va_nd l = true
  | [], _ => rfl
  | a :: l, h => by
    have h := List.nodup_cons.mp h
    show (decide (a ∉ l) && va_nd l) = true
    rw [nd_nd h.2, decide_eq_true h.1]; rfl
/- behind a constructor's call: the world grown -/
theorem n_run {p : Program} {l : Launch} {e : Env} {R : Room} {s : State} {m : MethodId} {args : Array Value} {below : List Frame} {meth : Method} {c : Code} {H : Heap} {locs : List Jvm.Loc} {cells slots mc ms : Nat} {Q : State → Prop} {ls : Array Slot} {pc : Nat} {st0 rest : List Value} {a : Array Value} {Y : Wx} {A : Nat → Prop} {wr : va_W} {q : Nat} {e0 : va_E} {B : va_W → Prop}
    (hr : va_Run p l e R s m args below meth c H locs cells slots mc ms (F0 m pc ls st0) rest (va_Qv (S := va_W) B (fun w t => va_P Y.1 classes w t.heap ∧ va_D (va_A [(q, e0)] H.size) w) (va_A [(q, e0)] H.size) a) (va_A [(q, e0)] H.size)) (hP : va_P Y.1 classes (wr ++ [(q, e0)]) H) (hD : va_D A (wr ++ [(q, e0)])) (hS : va_S A s.heap H locs) (hA : ∀ q, s.heap.size ≤ q → A q)
    (kk : ∀ (w1 : va_W) (H1 : Heap) (locs1 : List Jvm.Loc), B w1 → va_P Y.1 classes (wr ++ w1) H1 → va_D A (wr ++ w1) → va_S A s.heap H1 locs1 → W p l e R s m args below meth c H1 locs1 (cells + mc) (slots + ms) Q (F0 m (pc + 3) ls rest)) : W p l e R s m args below meth c H locs cells slots Q (F0 m pc ls st0) := by
  have hC : [wr.length].map (fun i => (wr ++ [(q, e0)])[i]?) = ([(q, e0)] : va_W).map some := by simp
  have hRr : (List.range wr.length).map (fun i => (wr ++ [(q, e0)])[i]?) = wr.map some := by
    apply List.ext_getElem?
    intro i
    by_cases hi : i < wr.length
    · rw [List.getElem?_map, List.getElem?_range hi, List.getElem?_map, List.getElem?_eq_getElem hi]
      simp [List.getElem?_append, hi]
    · rw [List.getElem?_eq_none (by simp; omega), List.getElem?_eq_none (by simp; omega)]
  have hF := va_free (wc := [(q, e0)]) hD hS hA [wr.length] hC
  refine va_callv hr hS (fun q _ h => hF q h) hF (fun u t H1 locs1 ht hvm hw hB hz1 hk1 hS1 => ?_)
  obtain ⟨hP1, hD1⟩ := hB
  rw [ht] at hP1
  obtain ⟨hP2, hD2⟩ := va_join (wr := wr) (w1 := u) hP hD [wr.length] (List.range wr.length) hC hRr (nd_nd List.nodup_range) (fun i hi => by
    have := List.mem_range.mp hi
    simp; omega) hk1 hF hP1 hD1
  exact kk u H1 locs1 hw hP2 hD2 hS1
section
variable {X : Cx} {Y : Wx} {A : Nat → Prop} {cc : ByteArray} {nL : Nat} {own : String} {R0 : Room} {cells slots : Nat} {lv : List (Nat × Value)} {pc : Nat}
theorem n_callI (hX : Fc X Y A cc nL own R0) {y : MethodName} {b : ByteArray} {nC idx : Nat} {R1 : Room} {mc ms q : Nat} {e0 : va_E} {B : va_W → Prop} {wr : va_W} (rest : List Value) (hM : Cn X.2.1 Y y b nC R1 mc ms q e0 (fun _ _ => True) B) (hc : Cond.code y b nC none ∈ Tg) (h1 : Cond.initialized y.cls ∈ Tg) (h2 : Cond.methodLink own idx y ∈ Tg) (h3 : Cond.instanceMethod y ∈ Tg) (hy : y.name = "<init>") (hd : y.cls ≠ "java/lang/invoke/MethodHandle" ∧ y.cls ≠ "java/lang/invoke/VarHandle" ∧ (parseMethodDescriptor y.desc).map (fun d => d.parameters.length) = some 0) (hr : R1.frames + 1 ≤ R0.frames ∧ 8 + (nC + 11) + R1.locals ≤ R0.locals) (hmc : R1.cells = mc) (hms : R1.slots = ms) (hf : cells + mc ≤ R0.cells ∧ slots + ms ≤ R0.slots) (hrs : (rest.map fun v => v.category).sum ≤ 8) (hdg : decode cc pc = .ok (.invokespecial idx, 3))
    (kk : ∀ w1 : va_W, B w1 → Gc X Y A (wr ++ w1) (cells + mc) (slots + ms) lv (pc + 3) rest) : Gc X Y A (wr ++ [(q, e0)]) cells slots lv pc (.ref q :: rest) := by
  obtain ⟨p, l, e, R, s, m, args, below, meth, c, Q⟩ := X
  obtain ⟨hx, hb, hml, ho, hts, hK, hA, hR, hini⟩ := hX
  subst hR
  intro H locs ls hP hD hS hl
  have hG : GoodIn Tg (.code y b nC none :: Tg) := tg_in (fun _ h => h) (fun z hz => by
    rcases List.mem_cons.mp hz with h | h
    · rw [h]; exact hc
    · exact h)
  have hP0 : va_P Y.1 classes [(q, e0)] H := hP.sub [wr.length] (by simp)
  refine n_run (va_runI (As := []) (rest := rest) ⟨hx, hb, hml, ho, hts⟩ (hM H.size) (cwI 0 hts hG rfl hmc hms (hts _ h1) (hts _ h2) (hts _ h3) hy hd hr) ⟨fun a U g mk z => ?_, fun U hU hW => ⟨rfl, by rw [hU], by rw [hU]; exact hP0, va_K.moved hW.alike hK, trivial⟩⟩ rfl rfl (by rw [← hml]; exact hl.1) rfl (lv_room hrs) hdg hf) hP hD hS hA (fun w1 H1 locs1 hB hP1 hD1 hS1 => kk w1 hB H1 locs1 ls hP1 hD1 hS1 hl)
  obtain ⟨z0, z1, z2, z3, z4⟩ := z
  exact ⟨z0, z1, z2, va_K.moved (u := U) (U := U.calling g mk a) (Vm.Alike.refl U.vm) z3, trivial⟩
theorem n_callN (hX : Fc X Y A cc nL own R0) {y : MethodName} {b : ByteArray} {nC idx : Nat} {host : String} {R1 : Room} {mc ms q : Nat} {e0 : va_E} {B : va_W → Prop} {wr : va_W} (rest : List Value) (hM : Cn X.2.1 Y y b nC R1 mc ms q e0 (fun _ _ => True) B) (hc : Cond.code y b nC none ∈ Tg) (h1 : Cond.initialized y.cls ∈ Tg) (h2 : va_Nw (.methodLinkNest own idx y host) X.2.2.2.2.1) (h3 : Cond.instanceMethod y ∈ Tg) (hy : y.name = "<init>") (hd : y.cls ≠ "java/lang/invoke/MethodHandle" ∧ y.cls ≠ "java/lang/invoke/VarHandle" ∧ (parseMethodDescriptor y.desc).map (fun d => d.parameters.length) = some 0) (hr : R1.frames + 1 ≤ R0.frames ∧ 8 + (nC + 11) + R1.locals ≤ R0.locals) (hmc : R1.cells = mc) (hms : R1.slots = ms) (hf : cells + mc ≤ R0.cells ∧ slots + ms ≤ R0.slots) (hrs : (rest.map fun v => v.category).sum ≤ 8) (hdg : decode cc pc = .ok (.invokespecial idx, 3))
    (kk : ∀ w1 : va_W, B w1 → Gc X Y A (wr ++ w1) (cells + mc) (slots + ms) lv (pc + 3) rest) : Gc X Y A (wr ++ [(q, e0)]) cells slots lv pc (.ref q :: rest) := by
  obtain ⟨p, l, e, R, s, m, args, below, meth, c, Q⟩ := X
  obtain ⟨hx, hb, hml, ho, hts, hK, hA, hR, hini⟩ := hX
  subst hR
  intro H locs ls hP hD hS hl
  have hG : GoodIn Tg (.code y b nC none :: Tg) := tg_in (fun _ h => h) (fun z hz => by
    rcases List.mem_cons.mp hz with h | h
    · rw [h]; exact hc
    · exact h)
  have hP0 : va_P Y.1 classes [(q, e0)] H := hP.sub [wr.length] (by simp)
  refine n_run (va_runIN (As := []) (rest := rest) ⟨hx, hb, hml, ho, hts⟩ (hM H.size) ⟨va_cnB 0 hts hG rfl hmc hms h2 (hts _ h1) hd hr, hy, hts _ h3⟩ ⟨fun a U g mk z => ?_, fun U hU hW => ⟨rfl, by rw [hU], by rw [hU]; exact hP0, va_K.moved hW.alike hK, trivial⟩⟩ rfl rfl (by rw [← hml]; exact hl.1) rfl (lv_room hrs) hdg hf) hP hD hS hA (fun w1 H1 locs1 hB hP1 hD1 hS1 => kk w1 hB H1 locs1 ls hP1 hD1 hS1 hl)
  obtain ⟨z0, z1, z2, z3, z4⟩ := z
  exact ⟨z0, z1, z2, va_K.moved (u := U) (U := U.calling g mk a) (Vm.Alike.refl U.vm) z3, trivial⟩
end
