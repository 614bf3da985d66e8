/- a call of a method of a world, out of any frame that holds more -/
theorem w_call {p : Program} {l : Launch} {e : Env} {R : Room} {s : State} {m : MethodId} {args : Array Value} {below : List Frame} {meth : Method} {c : Code} {H : Heap} {locs : List Jvm.Loc} {cells slots : Nat} {Q : State → Prop} {ls : Array Slot} {pc : Nat} {st0 rest : List Value} {a : Array Value} {ret : Option FieldType} {r : Option Value} {σ2 : Mem} {Y : Wx} {w : Nat} {A : Nat → Prop}
    (hr : va_Run p l e R s m args below meth c H locs cells slots 0 0 (F0 m pc ls st0) rest (Qo Y w ret r σ2 a) (Aw Y w)) (hS : va_S A s.heap H locs) (hAw : ∀ q, Aw Y w q → A q)
    (kk : okR ret r → ∀ (H1 : Heap) (locs1 : List Jvm.Loc), va_P Y.1 classes (wd Y w σ2) H1 → va_S A s.heap H1 locs1 → (∀ q : Nat, q < H.size → ¬ Aw Y w q → H1[q]? = H[q]?) → H.size ≤ H1.size → W p l e R s m args below meth c H1 locs1 cells slots Q (F0 m (pc + 3) ls (r.toList ++ rest))) : W p l e R s m args below meth c H locs cells slots Q (F0 m pc ls st0) := by
  intro T hT X
  obtain ⟨v, st₀, t, T', L, h0, X', hL, e1, e2, ⟨hv, hok, hb, hz, hk⟩, st⟩ := hr T hT X
  cases hv
  rw [h0] at hz hk
  obtain ⟨t2, a1, b1⟩ := kk hok T'.heap (locs ++ L) (by rw [e1]; exact hb)
    ⟨Nat.le_trans hS.1 (by rw [e1]; exact hz), fun q h1 h2 => by rw [e1, hk q (Nat.lt_of_lt_of_le h1 hS.1) (fun z => h2 (hAw q z))]; exact hS.2.1 q h1 h2, fun q hq => by
      rcases List.mem_append.mp hq with h | h
      · exact hS.2.2 q h
      · exact hAw _ (hL q h)⟩ (fun q h1 h2 => by rw [e1]; exact hk q h1 h2) (by rw [e1]; exact hz) T' rfl X'
  exact ⟨t2, st t2 a1, b1⟩
theorem Sts.dn {Y : Wx} {A B : Nat → Prop} {s U : State} {H : Heap} {locs : List Jvm.Loc} (h : Sts Y A s s.heap) (hAB : ∀ q, B q → A q) (hS : va_S A s.heap H locs) (hU : U.heap = H) (hW : s.WarmedH U.vm) : Sts Y B U U.heap := fun k hk => by
  obtain ⟨h1, h2⟩ := h k hk
  rw [hU]
  exact ⟨((h1.kept hS.2.1).narrow hAB).moved hW.alike, ((h2.kept hS.2.1).narrow hAB).moved hW.alike⟩
theorem w_callV {p : Program} {l : Launch} {e : Env} {R : Room} {s : State} {m : MethodId} {args : Array Value} {below : List Frame} {meth : Method} {c : Code} {cc : ByteArray} {nL : Nat} {own : String} {H : Heap} {locs : List Jvm.Loc} {cells slots : Nat} {Q : State → Prop} {ls : Array Slot} {pc : Nat} {Y : Wx} {w : Nat} {A : Nat → Prop} {σ : Mem}
    (hx : p.tables.exec = Jvm.exec) (hb : c.code = cc) (hml : c.maxLocals = nL) (ho : s.vm.findClass own = some m.cls) (hts : ∀ z ∈ Tg, z.before args s = true) (hK : va_K Y.1 classes (tysY Y) s) (hI : Inj Y w) (hZ : Sts Y A s s.heap) (hN : Nwf s) (hAw : ∀ q, Aw Y w q → A q)
    {C : String} {y : MethodName} {b : ByteArray} {nC idx n lv2 k ci : Nat} {fs : List (Option Nat)} {ret : Option FieldType} {T : u_T} {N : Nat} (As rest : List Value) {r : Option Value} {σ2 : Mem} (hm : MVok own idx C y b nC ret n) (hc : Ct l Y w y b nC ret lv2 (.ref (adr Y k) :: As) σ r σ2) (hv : lv2 + 1 ≤ R.frames) (hv2 : 8 + (nC + 11) + 40 * lv2 ≤ R.locals) (hk : inW w k) (hs : shp k = (2, ci, fs)) (hcl : classes[ci]? = some (C, T, N)) (hn : As.length = n) (hrs : (rest.map fun v => v.category).sum ≤ 8) (hce : cells ≤ R.cells) (hsl : slots ≤ R.slots) (hd : decode cc pc = .ok (.invokevirtual idx, 3)) (hlz : ls.size = nL)
    (hP : va_P Y.1 classes (wd Y w σ) H) (hS : va_S A s.heap H locs)
    (kk : okR ret r → ∀ (H1 : Heap) (locs1 : List Jvm.Loc), va_P Y.1 classes (wd Y w σ2) H1 → va_S A s.heap H1 locs1 → (∀ q : Nat, q < H.size → ¬ Aw Y w q → H1[q]? = H[q]?) → H.size ≤ H1.size → W p l e R s m args below meth c H1 locs1 cells slots Q (F0 m (pc + 3) ls (r.toList ++ rest))) : W p l e R s m args below meth c H locs cells slots Q (F0 m pc ls (As.reverse ++ .ref (adr Y k) :: rest)) := by
  obtain ⟨m1, m2, m3, m4, m5, m6, m7⟩ := hm
  have he := wd_get (Y := Y) (σ := σ) hk
  rw [cellE_obj hs] at he
  have hG : GoodIn Tg (wsV own idx C y (.code y b nC ret :: Tg)) := tg_in (fun _ h => h) (fun z hz => by
    simp only [wsV, List.mem_append, List.mem_cons, List.not_mem_nil, or_false] at hz
    rcases hz with (h | h | h | h) | h | h <;> first | (rw [h]; assumption) | exact h)
  exact w_call (ret := ret) (r := r) (σ2 := σ2) (va_runV (As := As) (rest := rest) ⟨hx, hb, hml, ho, hts⟩ hc (cwV n hts hG rfl rfl rfl m6 ⟨hv, hv2⟩) ⟨iv_blind, va_recv hK hP hcl he, fun U hU hW => ⟨rfl, by rw [hU]; exact hP, va_K.moved hW.alike hK, hI, hZ.dn hAw hS hU hW, va_Nw.warmM hW hN⟩⟩ rfl hn hlz rfl (lv_room hrs) hd ⟨hce, hsl⟩) hS hAw kk
abbrev e0O : va_E := .inr (2, [.int 0, .null, .int 0, .int 0, .null, .int 0, .int 0, .null, .null, .null, .int 0, .null, .null, .null, .null])
def RO0 : Room := { frames := 30, cells := 42, slots := 1447, locals := 1200 }
def NwS (U : State) : Prop := va_Nw (.methodLinkNest R_O 34 y_S_init R_O) U
section
variable {X : Cx} {Y : Wx} {A : Nat → Prop} {cells slots : Nat} {lv : List (Nat × Value)} {pc : Nat}
theorem n_newT (hX : Fc X Y A b_O_init 1 R_O RO0) {idx h0 : Nat} {fs : List Value} {tl : va_W} (i : Nat) (fs' : Nat → List Value) (c' s' pc' : Nat) (d1 : decode b_O_init pc = .ok (.new 39, 3)) (d2 : decode b_O_init (pc + 3) = .ok (.dup, 1)) (d3 : decode b_O_init (pc + 4) = .ok (.invokespecial 41, 3)) (d4 : decode b_O_init (pc + 7) = .ok (.putfield idx, 3)) (hce : cells + 11 ≤ 42) (hsl : slots + 374 ≤ 1447) (hi : i < 15) (hlk : Cond.fieldLink R_O idx (F_O i).1 (F_O i).2.1 (F_O i).2.2.1 ∈ Tg) (hfin : (F_O i).2.2.2 = true) (hdc : (F_O i).1 = R_O) (hft : ∀ q, narrow (ty_O i) (.ref q) = .ref q ∧ fits (ty_O i) (.ref q) = true) (hl2 : i < fs.length) (hfs : ∀ q, fs.set i (.ref q) = fs' q) (hc' : cells + 11 = c') (hs' : slots + 374 = s') (hp' : pc + 10 = pc') (k : ∀ a : Nat → Nat, Gc X Y A ((h0, .inr (2, fs' (a 0))) :: (tl ++ trW Y a 8)) c' s' lv pc' []) : Gc X Y A ((h0, .inr (2, fs)) :: tl) cells slots lv pc [.ref h0] := by
  subst hc' hs' hp'
  refine n_new hX (C := R_T) (T := F_T) (N := 15) (ci := 1) (fs := [.null, .null, .null, .null, .int 0, .int 0, .null, .int 0, .null, .int 0, .null, .int 0, .null, .null, .null]) ty_T rfl lw_T ty_T_ok q_24 q_25 q_3 (by decide +kernel) (by show cells + 1 ≤ 42; omega) (by show slots + 15 ≤ 1447; omega) d1 (fun q => ?_)
  refine n_dup hX d2 rfl ?_
  refine n_callI hX [.ref q, .ref h0] (c_T_init _ Y q) q_28 q_3 q_26 q_27 rfl (by decide +kernel) ⟨Nat.le_of_ble_eq_true rfl, Nat.le_of_ble_eq_true rfl⟩ rfl rfl ⟨by show cells + 1 + 10 ≤ 42; omega, by show slots + 15 + 359 ≤ 1447; omega⟩ (Nat.le_of_ble_eq_true rfl) d3 (fun w1 hB => ?_)
  obtain ⟨a, ha, rfl⟩ := hB
  subst ha
  refine n_eq (ws2 := (h0, .inr (2, fs)) :: (tl ++ trW Y a 8)) rfl ?_
  refine n_putF hX i ty_O rfl lw_O ty_O_ok n_O hi hlk hfin hdc (hft _).1 (hft _).2 hl2 d4 ?_
  rw [hfs]
  exact k a
theorem n_newS (hX : Fc X Y A b_O_init 1 R_O RO0) (hN : NwS X.2.2.2.2.1) {idx h0 : Nat} {fs : List Value} {tl : va_W} (i : Nat) (fs' : Nat → List Value) (c' s' pc' : Nat) (d1 : decode b_O_init pc = .ok (.new 32, 3)) (d2 : decode b_O_init (pc + 3) = .ok (.dup, 1)) (d3 : decode b_O_init (pc + 4) = .ok (.invokespecial 34, 3)) (d4 : decode b_O_init (pc + 7) = .ok (.putfield idx, 3)) (hce : cells + 4 ≤ 42) (hsl : slots + 251 ≤ 1447) (hi : i < 15) (hlk : Cond.fieldLink R_O idx (F_O i).1 (F_O i).2.1 (F_O i).2.2.1 ∈ Tg) (hfin : (F_O i).2.2.2 = true) (hdc : (F_O i).1 = R_O) (hft : ∀ q, narrow (ty_O i) (.ref q) = .ref q ∧ fits (ty_O i) (.ref q) = true) (hl2 : i < fs.length) (hfs : ∀ q, fs.set i (.ref q) = fs' q) (hc' : cells + 4 = c') (hs' : slots + 251 = s') (hp' : pc + 10 = pc') (k : ∀ a : Nat → Nat, Gc X Y A ((h0, .inr (2, fs' (a 0))) :: (tl ++ shW Y a)) c' s' lv pc' []) : Gc X Y A ((h0, .inr (2, fs)) :: tl) cells slots lv pc [.ref h0] := by
  subst hc' hs' hp'
  refine n_new hX (C := R_S) (T := F_S) (N := 3) (ci := 0) (fs := [.null, .null, .null]) ty_S rfl lw_S ty_S_ok q_15 q_16 q_2 (by decide +kernel) (by show cells + 1 ≤ 42; omega) (by show slots + 3 ≤ 1447; omega) d1 (fun q => ?_)
  refine n_dup hX d2 rfl ?_
  refine n_callN hX [.ref q, .ref h0] (c_S_init _ Y q) q_18 q_2 hN q_17 rfl (by decide +kernel) ⟨Nat.le_of_ble_eq_true rfl, Nat.le_of_ble_eq_true rfl⟩ rfl rfl ⟨by show cells + 1 + 3 ≤ 42; omega, by show slots + 3 + 248 ≤ 1447; omega⟩ (Nat.le_of_ble_eq_true rfl) d3 (fun w1 hB => ?_)
  obtain ⟨a, ha, rfl⟩ := hB
  subst ha
  refine n_eq (ws2 := (h0, .inr (2, fs)) :: (tl ++ shW Y a)) rfl ?_
  refine n_putF hX i ty_O rfl lw_O ty_O_ok n_O hi hlk hfin hdc (hft _).1 (hft _).2 hl2 d4 ?_
  rw [hfs]
  exact k a
theorem wd_D2 {Y : Wx} {w : Nat} {A : Nat → Prop} {σ τ : Mem} (h : va_D A (wd Y w σ)) : va_D A (wd Y w τ) := by
  refine ⟨fun i j p q hi hj e => ?_, fun k q hk => ?_⟩
  · obtain ⟨a1, rfl⟩ := wd_at hi
    obtain ⟨b1, rfl⟩ := wd_at hj
    have h1 := wd_get (Y := Y) (σ := σ) a1
    have h2 := wd_get (Y := Y) (σ := σ) b1
    rw [Nat.add_sub_cancel_left] at h1 h2
    exact h.1 i j _ _ h1 h2 e
  · obtain ⟨a1, rfl⟩ := wd_at hk
    have h1 := wd_get (Y := Y) (σ := σ) a1
    have h2 := h.2 _ _ h1
    exact h2
theorem wd_inj {Y : Wx} {w : Nat} {A : Nat → Prop} {σ : Mem} (h : va_D A (wd Y w σ)) : Inj Y w ∧ ∀ q, Aw Y w q → A q := by
  refine ⟨fun i j hi hj e => ?_, fun q hq => ?_⟩
  · have := h.1 _ _ _ _ (wd_get (Y := Y) (σ := σ) hi) (wd_get (Y := Y) (σ := σ) hj) e
    unfold inW at hi hj
    omega
  · obtain ⟨k, hk, rfl⟩ := hq
    exact h.2 _ _ (wd_get (Y := Y) (σ := σ) hk)
theorem n_draw {cc : ByteArray} {nL : Nat} (hX : Fc X Y A cc nL R_O RO0) (a : Nat → Nat) {σ σ2 : Mem} (hZ : Sts Y A X.2.2.2.2.1 X.2.2.2.2.1.heap) (hN : Nwf X.2.2.2.2.1) (hf : O_drawAll σ = some σ2) (hce : cells ≤ 42) (hsl : slots ≤ 1447) (hd : decode cc pc = .ok (.invokevirtual 64, 3)) (k : Gc X Y A (wd (Y.1, Y.2.1, Y.2.2.1, a, Y.2.2.2.2) 0 σ2) cells slots lv (pc + 3) []) : Gc X Y A (wd (Y.1, Y.2.1, Y.2.2.1, a, Y.2.2.2.2) 0 σ) cells slots lv pc [.ref (a 0)] := by
  obtain ⟨p, l, e, R, s, m, args, below, meth, c, Q⟩ := X
  obtain ⟨hx, hb, hml, ho, hts, hK, hA, hR, hini⟩ := hX
  subst hR
  intro H locs ls hP hD hS hl
  obtain ⟨hI, hAw⟩ := wd_inj hD
  refine w_callV (Y := (Y.1, Y.2.1, Y.2.2.1, a, Y.2.2.2.2)) (w := 0) (A := A) (σ := σ) hx hb hml ho hts hK hI hZ hN hAw (k := 0) (ci := 2) [] [] mv_O_64 (c_O_drawAll l (Y.1, Y.2.1, Y.2.2.1, a, Y.2.2.2.2) σ σ2 hf) (Nat.le_of_ble_eq_true rfl) (Nat.le_of_ble_eq_true rfl) ⟨Nat.le_refl 0, by decide⟩ rfl rfl rfl (Nat.le_of_ble_eq_true rfl) hce hsl hd (by rw [← hml]; exact hl.1) hP hS (fun _ H1 locs1 hP1 hS1 _ _ => k H1 locs1 ls hP1 (wd_D2 hD) hS1 hl)
end
