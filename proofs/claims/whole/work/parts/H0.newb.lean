/- constructors: worlds that grow -/
theorem q_oi : Cond.code objectInit ⟨#[0xb1]⟩ 1 none ∈ Tg := tg_t 15 (by decide +kernel) (by decide +kernel)
def Gc (X : Cx) (Y : Wx) (A : Nat → Prop) (ws : va_W) (cells slots : Nat) (lv : List (Nat × Value)) (pc : Nat) (st : List Value) : Prop := match X with
  | (p, l, e, R, s, m, args, below, meth, c, Q) => ∀ (H : Heap) (locs : List Jvm.Loc) (ls : Array Slot), va_P Y.1 classes ws H → va_D A ws → va_S A s.heap H locs → lv_has ls c.maxLocals lv → W p l e R s m args below meth c H locs cells slots Q (F0 m pc ls st)
def Fc (X : Cx) (Y : Wx) (A : Nat → Prop) (cc : ByteArray) (nL : Nat) (own : String) (R0 : Room) : Prop := match X with
  | (p, l, e, R, s, m, args, below, meth, c, Q) => p.tables.exec = Jvm.exec ∧ c.code = cc ∧ c.maxLocals = nL ∧ s.vm.findClass own = some m.cls ∧ (∀ z ∈ Tg, z.before args s = true) ∧ va_K Y.1 classes (tysY Y) s ∧ (∀ q, s.heap.size ≤ q → A q) ∧ R = R0 ∧ meth.name = "<init>"
theorem k_int {Y : Wx} {s : State} (h : va_K Y.1 classes (tysY Y) s) : s.vm.findClass ("[" ++ FieldType.int.toString) = some Y.2.1 := (h.2 0 _ rfl).2
theorem k_boo {Y : Wx} {s : State} (h : va_K Y.1 classes (tysY Y) s) : s.vm.findClass ("[" ++ FieldType.boolean.toString) = some Y.2.2.1 := (h.2 1 _ rfl).2
section
variable {X : Cx} {Y : Wx} {A : Nat → Prop} {cc : ByteArray} {nL : Nat} {own : String} {R0 : Room} {ws : va_W} {cells slots : Nat} {lv : List (Nat × Value)} {pc : Nat} {st : List Value}
theorem n_iconst (hX : Fc X Y A cc nL own R0) {n : Int} (v : Int32) (hd : decode cc pc = .ok (.iconst n, 1)) (hv : Int32.ofInt n = v) (k : Gc X Y A ws cells slots lv (pc + 1) (.int v :: st)) : Gc X Y A ws cells slots lv pc st := by
  obtain ⟨p, l, e, R, s, m, args, below, meth, c, Q⟩ := X
  intro H locs ls hP hD hS hl
  exact lv_iconst hX.1 hX.2.1 hd hv (k H locs ls hP hD hS hl)
theorem n_bipush (hX : Fc X Y A cc nL own R0) {n : Int} (v : Int32) (hd : decode cc pc = .ok (.bipush n, 2)) (hv : (Int8.ofInt n).toInt32 = v) (k : Gc X Y A ws cells slots lv (pc + 2) (.int v :: st)) : Gc X Y A ws cells slots lv pc st := by
  obtain ⟨p, l, e, R, s, m, args, below, meth, c, Q⟩ := X
  intro H locs ls hP hD hS hl
  exact lv_bipush hX.1 hX.2.1 hd hv (k H locs ls hP hD hS hl)
theorem n_sipush (hX : Fc X Y A cc nL own R0) {n : Int} (v : Int32) (hd : decode cc pc = .ok (.sipush n, 3)) (hv : (Int16.ofInt n).toInt32 = v) (k : Gc X Y A ws cells slots lv (pc + 3) (.int v :: st)) : Gc X Y A ws cells slots lv pc st := by
  obtain ⟨p, l, e, R, s, m, args, below, meth, c, Q⟩ := X
  intro H locs ls hP hD hS hl
  exact lv_sipush hX.1 hX.2.1 hd hv (k H locs ls hP hD hS hl)
theorem n_aload_n (hX : Fc X Y A cc nL own R0) {j : Fin 4} {x : Nat} (hd : decode cc pc = .ok (.aload_n j, 1)) (q : Nat) (hq : lv[q]? = some ((j : Nat), .ref x)) (k : Gc X Y A ws cells slots lv (pc + 1) (.ref x :: st)) : Gc X Y A ws cells slots lv pc st := by
  obtain ⟨p, l, e, R, s, m, args, below, meth, c, Q⟩ := X
  intro H locs ls hP hD hS hl
  exact lv_aload_n hX.1 hX.2.1 hd rfl (lv_at hl q hq) (k H locs ls hP hD hS hl)
theorem n_dup (hX : Fc X Y A cc nL own R0) {v : Value} (hd : decode cc pc = .ok (.dup, 1)) (hc : v.category = 1) (k : Gc X Y A ws cells slots lv (pc + 1) (v :: v :: st)) : Gc X Y A ws cells slots lv pc (v :: st) := by
  obtain ⟨p, l, e, R, s, m, args, below, meth, c, Q⟩ := X
  intro H locs ls hP hD hS hl
  exact lv_dup hX.1 hX.2.1 hd hc (k H locs ls hP hD hS hl)
theorem n_objInit (hX : Fc X Y A cc nL own R0) {a idx : Nat} (hl1 : Cond.methodLink own idx objectInit ∈ Tg) (hd : decode cc pc = .ok (.invokespecial idx, 3)) (hfr : 1 ≤ R0.frames) (hlo : 12 ≤ R0.locals) (k : Gc X Y A ws cells slots lv (pc + 3) []) : Gc X Y A ws cells slots lv pc [.ref a] := by
  obtain ⟨p, l, e, R, s, m, args, below, meth, c, Q⟩ := X
  obtain ⟨hx, hb, hml, ho, hts, hK, hA, hR, hin⟩ := hX
  subst hR
  intro H locs ls hP hD hS hl
  refine W.objInit hx hb ho (hts _ hl1) (hts _ q_14) (hts _ q_oi) rfl hl.1 rfl hd hfr ?_ ?_
  · show 2 * 0 + 0 + 12 ≤ R.locals; omega
  · exact W.eq (g2 := F0 m (pc + 3) ls []) rfl (k H locs ls hP hD hS hl)
theorem n_newI (hX : Fc X Y A cc nL own R0) {n : Int32} (L : Nat) (hn : ¬ n < 0) (hN : n.toNatClampNeg = L) (hby : L * componentBytes .int ≤ 536870912) (hce : cells + 1 ≤ R0.cells) (hsl : slots + L ≤ R0.slots) (hd : decode cc pc = .ok (.newarray .int, 2)) (k : ∀ q : Nat, Gc X Y A (ws ++ [(q, .inl (Y.2.1, L, .inl (fun _ => 0)))]) (cells + 1) (slots + L) lv (pc + 2) (.ref q :: st)) : Gc X Y A ws cells slots lv pc (.int n :: st) := by
  obtain ⟨p, l, e, R, s, m, args, below, meth, c, Q⟩ := X
  obtain ⟨hx, hb, hml, ho, hts, hK, hA, hR, hin⟩ := hX
  subst hR
  intro H locs ls hP hD hS hl
  refine va_newa (atype := .int) (a0 := (L, .inl (fun _ => 0))) hx hb (hts _ q_23) rfl hK hP hD hS hA (fun _ => rfl) hn hN hby hce hsl hd (fun q cA H1 hK1 hP1 hD1 hS1 => ?_)
  have e1 : s.vm.findClass ("[" ++ FieldType.int.toString) = some cA := (hK1.2 2 _ rfl).2
  rw [k_int hK] at e1
  have e2 := Option.some.inj e1
  subst e2
  exact k q H1 locs ls hP1 hD1 hS1 hl
theorem n_newZ (hX : Fc X Y A cc nL own R0) (hq : Cond.arrayClass .boolean ∈ Tg) {n : Int32} (L : Nat) (hn : ¬ n < 0) (hN : n.toNatClampNeg = L) (hby : L * componentBytes .boolean ≤ 536870912) (hce : cells + 1 ≤ R0.cells) (hsl : slots + L ≤ R0.slots) (hd : decode cc pc = .ok (.newarray .boolean, 2)) (k : ∀ q : Nat, Gc X Y A (ws ++ [(q, .inl (Y.2.2.1, L, .inl (fun _ => 0)))]) (cells + 1) (slots + L) lv (pc + 2) (.ref q :: st)) : Gc X Y A ws cells slots lv pc (.int n :: st) := by
  obtain ⟨p, l, e, R, s, m, args, below, meth, c, Q⟩ := X
  obtain ⟨hx, hb, hml, ho, hts, hK, hA, hR, hin⟩ := hX
  subst hR
  intro H locs ls hP hD hS hl
  refine va_newa (atype := .boolean) (a0 := (L, .inl (fun _ => 0))) hx hb (hts _ hq) rfl hK hP hD hS hA (fun _ => rfl) hn hN hby hce hsl hd (fun q cA H1 hK1 hP1 hD1 hS1 => ?_)
  have e1 : s.vm.findClass ("[" ++ FieldType.boolean.toString) = some cA := (hK1.2 2 _ rfl).2
  rw [k_boo hK] at e1
  have e2 := Option.some.inj e1
  subst e2
  exact k q H1 locs ls hP1 hD1 hS1 hl
theorem n_new (hX : Fc X Y A cc nL own R0) {C : String} {T : u_T} {N ci idx : Nat} (ty : Nat → FieldType) (hcl : classes[ci]? = some (C, T, N)) (hin : ∀ z ∈ u_ws C T N, z ∈ Tg) (hty : ∀ k, k < N → parseFieldDescriptor (T k).2.2.1 = some (ty k)) (hl1 : Cond.classLink own idx C ∈ Tg) (hl2 : Cond.instantiable C N ∈ Tg) (hl3 : Cond.initialized C ∈ Tg) {fs : List Value} (hfs : ∀ j, j < N → defaultValue (ty j) = vp_V fs j) (hce : cells + 1 ≤ R0.cells) (hsl : slots + N ≤ R0.slots) (hd : decode cc pc = .ok (.new idx, 3)) (k : ∀ q : Nat, Gc X Y A (ws ++ [(q, .inr (ci, fs))]) (cells + 1) (slots + N) lv (pc + 3) (.ref q :: st)) : Gc X Y A ws cells slots lv pc st := by
  obtain ⟨p, l, e, R, s, m, args, below, meth, c, Q⟩ := X
  obtain ⟨hx, hb, hml, ho, hts, hK, hA, hR, hi⟩ := hX
  subst hR
  intro H locs ls hP hD hS hl
  exact va_new (ci := ci) (fs := fs) hx hb hts hin ty hty ho (hts _ hl1) (hts _ hl2) (hts _ hl3) hK hP hD hS hA hcl hfs hce hsl hd (fun q H1 hP1 hD1 hS1 => k q H1 locs ls hP1 hD1 hS1 hl)
theorem n_putF (hX : Fc X Y A cc nL own R0) {C : String} {T : u_T} {N ci idx a : Nat} {fs : List Value} {tl : va_W} (i : Nat) (ty : Nat → FieldType) (hcl : classes[ci]? = some (C, T, N)) (hin : ∀ z ∈ u_ws C T N, z ∈ Tg) (hty : ∀ k, k < N → parseFieldDescriptor (T k).2.2.1 = some (ty k)) (hnm : ∀ a, a < N → ∀ b, b < N → a ≠ b → (T a).2.1 ≠ (T b).2.1) (hi : i < N) (hlk : Cond.fieldLink own idx (T i).1 (T i).2.1 (T i).2.2.1 ∈ Tg) (hfin : (T i).2.2.2 = true) (hdc : (T i).1 = own) {q : Nat} (hn : narrow (ty i) (.ref q) = .ref q) (hft : fits (ty i) (.ref q) = true) (hl2 : i < fs.length) (hd : decode cc pc = .ok (.putfield idx, 3)) (k : Gc X Y A ((a, .inr (ci, fs.set i (.ref q))) :: tl) cells slots lv (pc + 3) st) : Gc X Y A ((a, .inr (ci, fs)) :: tl) cells slots lv pc (.ref q :: .ref a :: st) := by
  obtain ⟨p, l, e, R, s, m, args, below, meth, c, Q⟩ := X
  obtain ⟨hx, hb, hml, ho, hts, hK, hA, hR, hini⟩ := hX
  subst hR
  intro H locs ls hP hD hS hl
  exact va_putF (ci := ci) hx hb hts hin ty hty hnm ho hK hP hD hS 0 rfl hcl i hi (hts _ hlk) (fun _ h => h) hfin hini hdc (hty i hi) hn hft hl2 hd (fun H1 locs1 hP1 hD1 hS1 => k H1 locs1 ls hP1 hD1 hS1 hl)
theorem n_putI (hX : Fc X Y A cc nL own R0) {C : String} {T : u_T} {N ci idx a : Nat} {fs : List Value} {tl : va_W} (i : Nat) (ty : Nat → FieldType) (hcl : classes[ci]? = some (C, T, N)) (hin : ∀ z ∈ u_ws C T N, z ∈ Tg) (hty : ∀ k, k < N → parseFieldDescriptor (T k).2.2.1 = some (ty k)) (hnm : ∀ a, a < N → ∀ b, b < N → a ≠ b → (T a).2.1 ≠ (T b).2.1) (hi : i < N) (hlk : Cond.fieldLink own idx (T i).1 (T i).2.1 (T i).2.2.1 ∈ Tg) (hfin : (T i).2.2.2 = false) {v : Int32} (hn : narrow (ty i) (.int v) = .int v) (hft : fits (ty i) (.int v) = true) (hl2 : i < fs.length) (hd : decode cc pc = .ok (.putfield idx, 3)) (k : Gc X Y A ((a, .inr (ci, fs.set i (.int v))) :: tl) cells slots lv (pc + 3) st) : Gc X Y A ((a, .inr (ci, fs)) :: tl) cells slots lv pc (.int v :: .ref a :: st) := by
  obtain ⟨p, l, e, R, s, m, args, below, meth, c, Q⟩ := X
  obtain ⟨hx, hb, hml, ho, hts, hK, hA, hR, hini⟩ := hX
  subst hR
  intro H locs ls hP hD hS hl
  exact va_put (ci := ci) hx hb hts hin ty hty hnm ho hK hP hD hS 0 rfl hcl i hi (hts _ hlk) (fun _ h => h) hfin (hty i hi) hn hft hl2 hd (fun H1 locs1 hP1 hD1 hS1 => k H1 locs1 ls hP1 hD1 hS1 hl)
theorem n_iast (hX : Fc X Y A cc nL own R0) (q0 : Nat) {a L : Nat} {f : Nat → Int32} {i x : Int32} {ws2 : va_W} (ha : ws[q0]? = some (a, .inl (Y.2.1, L, .inl f))) (hin : vp_in i L) (hw : ws.set q0 (a, .inl (Y.2.1, L, .inl (upd f i.toNatClampNeg x))) = ws2) (hd : decode cc pc = .ok (.iastore, 1)) (k : Gc X Y A ws2 cells slots lv (pc + 1) st) : Gc X Y A ws cells slots lv pc (.int x :: .int i :: .ref a :: st) := by
  subst hw
  obtain ⟨p, l, e, R, s, m, args, below, meth, c, Q⟩ := X
  obtain ⟨hx, hb, hml, ho, hts, hK, hA, hR, hini⟩ := hX
  subst hR
  intro H locs ls hP hD hS hl
  exact va_iast hx hb hK hP hD hS q0 0 ha rfl hin hd (fun H1 locs1 hP1 hD1 hS1 => k H1 locs1 ls hP1 hD1 hS1 hl)
theorem n_sub (is : List Nat) {ws2 : va_W} (h1 : is.filterMap (fun i => ws[i]?) = ws2) (hn : va_nd is = true) (h2 : is.map (fun i => ws[i]?) = ws2.map some) (k : Gc X Y A ws2 cells slots lv pc st) : Gc X Y A ws cells slots lv pc st := by
  obtain ⟨p, l, e, R, s, m, args, below, meth, c, Q⟩ := X
  intro H locs ls hP hD hS hl
  exact k H locs ls (hP.sub is h1) (hD.sub is hn h2) hS hl
theorem n_eq {ws2 : va_W} (h : ws = ws2) (k : Gc X Y A ws2 cells slots lv pc st) : Gc X Y A ws cells slots lv pc st := by rw [h]; exact k
end
