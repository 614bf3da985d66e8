/- the law's own rows: both worlds -/
abbrev Lx : Type := Program × Launch × Env × State × MethodId × List Frame × Method × Code × Nat × Nat × (Nat → Int32) × Wx
def GL (Z : Lx) (σ μ : Mem) (lv : List (Nat × Value)) (pc : Nat) (st : List Value) : Prop := match Z with
  | (p, l, e, s, m, below, meth, c, b, L, xs, Y) => ∀ (H : Heap) (locs : List Jvm.Loc) (ls : Array Slot), va_P Y.1 classes (wd Y 0 σ) H → va_P Y.1 classes (wd Y 1 μ) H → va_S (fun q => s.heap.size ≤ q) s.heap H locs → lv_has ls 4 lv → W p l e room_1 s m #[Value.ref b] below meth c H locs 66 3574 (lw_Z below #[Value.ref b] s) (F0 m pc ls st)
def Lw (Z : Lx) : Prop := match Z with
  | (p, l, e, s, m, below, meth, c, b, L, xs, Y) => p.tables.exec = Jvm.exec ∧ c.code = code ∧ c.maxLocals = 4 ∧ s.vm.findClass "OrderTreesLaw" = some m.cls ∧ (∀ z ∈ Tg, z.before #[Value.ref b] s = true) ∧ va_K Y.1 classes (tysY Y) s ∧ Inj Y 0 ∧ Inj Y 1 ∧ (∀ q, Aw Y 0 q → s.heap.size ≤ q) ∧ (∀ q, Aw Y 1 q → s.heap.size ≤ q) ∧ (∀ q, Aw Y 0 q → ¬ Aw Y 1 q) ∧ Sts Y (fun q => s.heap.size ≤ q) s s.heap ∧ Nwf s ∧ va_X b L xs s s.heap ∧ b < s.heap.size ∧ meth.sig.returnType = ret ∧ meth.locks = false ∧ L ≤ 3072
def zl (Z : Lx) : Launch := Z.2.1
def zY (Z : Lx) : Wx := Z.2.2.2.2.2.2.2.2.2.2.2
def zL (Z : Lx) : Nat := Z.2.2.2.2.2.2.2.2.2.1
def zx (Z : Lx) : Nat → Int32 := Z.2.2.2.2.2.2.2.2.2.2.1
def zb (Z : Lx) : Nat := Z.2.2.2.2.2.2.2.2.1
theorem kept_w {Y : Wx} {w w2 : Nat} {σ : Mem} {H H1 : Heap} (hP : va_P Y.1 classes (wd Y w σ) H) (hd : ∀ q, Aw Y w2 q → ¬ Aw Y w q) (hk : ∀ q : Nat, q < H.size → ¬ Aw Y w2 q → H1[q]? = H[q]?) : va_P Y.1 classes (wd Y w σ) H1 := by
  refine hP.kept (fun k q hq => ?_)
  have hlt := (hP k q hq).lt
  obtain ⟨a1, rfl⟩ := wd_at hq
  exact hk _ hlt (fun z => hd _ z ⟨_, a1, rfl⟩)
section
variable {Z : Lx} {σ μ : Mem} {lv : List (Nat × Value)} {pc : Nat} {st : List Value}
theorem l_aload (hZ : Lw Z) {j : Fin 4} {x : Nat} (hd : decode code pc = .ok (.aload_n j, 1)) (q : Nat) (hq : lv[q]? = some ((j : Nat), .ref x)) (k : GL Z σ μ lv (pc + 1) (.ref x :: st)) : GL Z σ μ lv pc st := by
  obtain ⟨p, l, e, s, m, below, meth, c, b, L, xs, Y⟩ := Z
  intro H locs ls hP hQ hS hl
  exact lv_aload_n hZ.1 hZ.2.1 hd rfl (lv_at hl q hq) (k H locs ls hP hQ hS hl)
theorem l_iload (hZ : Lw Z) {j : Fin 4} {x : Int32} (hd : decode code pc = .ok (.iload_n j, 1)) (q : Nat) (hq : lv[q]? = some ((j : Nat), .int x)) (k : GL Z σ μ lv (pc + 1) (.int x :: st)) : GL Z σ μ lv pc st := by
  obtain ⟨p, l, e, s, m, below, meth, c, b, L, xs, Y⟩ := Z
  intro H locs ls hP hQ hS hl
  exact lv_iload_n hZ.1 hZ.2.1 hd rfl (lv_at hl q hq) (k H locs ls hP hQ hS hl)
theorem l_iconst (hZ : Lw Z) {n : Int} (v : Int32) (hd : decode code pc = .ok (.iconst n, 1)) (hv : Int32.ofInt n = v) (k : GL Z σ μ lv (pc + 1) (.int v :: st)) : GL Z σ μ lv pc st := by
  obtain ⟨p, l, e, s, m, below, meth, c, b, L, xs, Y⟩ := Z
  intro H locs ls hP hQ hS hl
  exact lv_iconst hZ.1 hZ.2.1 hd hv (k H locs ls hP hQ hS hl)
theorem l_bipush (hZ : Lw Z) {n : Int} (v : Int32) (hd : decode code pc = .ok (.bipush n, 2)) (hv : (Int8.ofInt n).toInt32 = v) (k : GL Z σ μ lv (pc + 2) (.int v :: st)) : GL Z σ μ lv pc st := by
  obtain ⟨p, l, e, s, m, below, meth, c, b, L, xs, Y⟩ := Z
  intro H locs ls hP hQ hS hl
  exact lv_bipush hZ.1 hZ.2.1 hd hv (k H locs ls hP hQ hS hl)
theorem l_iadd (hZ : Lw Z) {x y : Int32} (hd : decode code pc = .ok (.iadd, 1)) (k : GL Z σ μ lv (pc + 1) (.int (x + y) :: st)) : GL Z σ μ lv pc (.int y :: .int x :: st) := by
  obtain ⟨p, l, e, s, m, below, meth, c, b, L, xs, Y⟩ := Z
  intro H locs ls hP hQ hS hl
  exact lv_iadd hZ.1 hZ.2.1 hd (k H locs ls hP hQ hS hl)
theorem l_isub (hZ : Lw Z) {x y : Int32} (hd : decode code pc = .ok (.isub, 1)) (k : GL Z σ μ lv (pc + 1) (.int (x - y) :: st)) : GL Z σ μ lv pc (.int y :: .int x :: st) := by
  obtain ⟨p, l, e, s, m, below, meth, c, b, L, xs, Y⟩ := Z
  intro H locs ls hP hQ hS hl
  exact lv_isub hZ.1 hZ.2.1 hd (k H locs ls hP hQ hS hl)
theorem l_iand (hZ : Lw Z) {x y : Int32} (hd : decode code pc = .ok (.iand, 1)) (k : GL Z σ μ lv (pc + 1) (.int (x &&& y) :: st)) : GL Z σ μ lv pc (.int y :: .int x :: st) := by
  obtain ⟨p, l, e, s, m, below, meth, c, b, L, xs, Y⟩ := Z
  intro H locs ls hP hQ hS hl
  exact lv_iand hZ.1 hZ.2.1 hd (k H locs ls hP hQ hS hl)
theorem l_sld (hZ : Lw Z) {i : Nat} (hi : i < zL Z) (hd : decode code pc = .ok (.iaload, 1)) (k : GL Z σ μ lv (pc + 1) (.int (zx Z i) :: st)) : GL Z σ μ lv pc (.int (nI i) :: .ref (zb Z) :: st) := by
  obtain ⟨p, l, e, s, m, below, meth, c, b, L, xs, Y⟩ := Z
  obtain ⟨hx, hb, hml, ho, hts, hK, hI0, hI1, hA0, hA1, hdj, hSt, hN, hX, hbl, hr, hlk, hL⟩ := hZ
  intro H locs ls hP hQ hS hl
  have hi : i < L := hi
  have hin : vp_in (nI i) L := by
    unfold vp_in
    rw [nI_cl (by omega)]
    rintro (h | h)
    · exact nI_pos (by omega) h
    · omega
  have e1 : (nI i).toNatClampNeg = i := nI_cl (by omega)
  have k2 := k H locs ls hP hQ hS hl
  refine va_sld hx hb hX hbl (Nat.not_le.mpr hbl) hS hin hd ?_
  rw [e1]
  exact k2
theorem l_slen (hZ : Lw Z) (hd : decode code pc = .ok (.arraylength, 1)) (k : GL Z σ μ lv (pc + 1) (.int (Int32.ofNat (zL Z)) :: st)) : GL Z σ μ lv pc (.ref (zb Z) :: st) := by
  obtain ⟨p, l, e, s, m, below, meth, c, b, L, xs, Y⟩ := Z
  obtain ⟨hx, hb, hml, ho, hts, hK, hI0, hI1, hA0, hA1, hdj, hSt, hN, hX, hbl, hr, hlk, hL⟩ := hZ
  intro H locs ls hP hQ hS hl
  exact va_slen hx hb hX hbl (Nat.not_le.mpr hbl) hS hd (k H locs ls hP hQ hS hl)
theorem l_gt (hZ : Lw Z) {x y : Int32} {off : Int} (tgt : Nat) (hd : decode code pc = .ok (.if_icmp .gt off, 3)) (ht : (pc : Int) + off = (tgt : Int)) (kt : y < x → GL Z σ μ lv tgt st) (kf : ¬ y < x → GL Z σ μ lv (pc + 3) st) : GL Z σ μ lv pc (.int y :: .int x :: st) := by
  obtain ⟨p, l, e, s, m, below, meth, c, b, L, xs, Y⟩ := Z
  intro H locs ls hP hQ hS hl
  exact lv_icmp_gt hZ.1 hZ.2.1 hd ht (fun h => kt h H locs ls hP hQ hS hl) (fun h => kf h H locs ls hP hQ hS hl)
theorem l_eq (hZ : Lw Z) {x : Int32} {off : Int} (tgt : Nat) (hd : decode code pc = .ok (.if_icmp .eq off, 3)) (ht : (pc : Int) + off = (tgt : Int)) (k : GL Z σ μ lv tgt st) : GL Z σ μ lv pc (.int x :: .int x :: st) := by
  obtain ⟨p, l, e, s, m, below, meth, c, b, L, xs, Y⟩ := Z
  intro H locs ls hP hQ hS hl
  exact lv_icmp_eq hZ.1 hZ.2.1 hd ht (fun _ => k H locs ls hP hQ hS hl) (fun h => absurd rfl h)
theorem l_eqL (hZ : Lw Z) {x : Int64} {off : Int} (tgt : Nat) (hd : decode code pc = .ok (.lcmp, 1)) (hd2 : decode code (pc + 1) = .ok (.ifCond .eq off, 3)) (ht : ((pc + 1 : Nat) : Int) + off = (tgt : Int)) (k : GL Z σ μ lv tgt st) : GL Z σ μ lv pc (.long x :: .long x :: st) := by
  obtain ⟨p, l, e, s, m, below, meth, c, b, L, xs, Y⟩ := Z
  intro H locs ls hP hQ hS hl
  refine W.lcmp hZ.1 hZ.2.1 hd ?_
  have e0 : lg_cmp x x = 0 := by
    unfold lg_cmp
    simp
  rw [e0]
  exact lv_if_eq hZ.1 hZ.2.1 hd2 ht (fun _ => k H locs ls hP hQ hS hl) (fun h => absurd rfl h)
theorem l_goto (hZ : Lw Z) {off : Int} (tgt : Nat) (hd : decode code pc = .ok (.goto off, 3)) (ht : (pc : Int) + off = (tgt : Int)) (k : GL Z σ μ lv tgt st) : GL Z σ μ lv pc st := by
  obtain ⟨p, l, e, s, m, below, meth, c, b, L, xs, Y⟩ := Z
  intro H locs ls hP hQ hS hl
  exact lv_goto hZ.1 hZ.2.1 hd ht (k H locs ls hP hQ hS hl)
theorem l_iinc (hZ : Lw Z) {j : Nat} {n : Int} {x : Int32} (v : Int32) (lf : List (Nat × Value)) (hd : decode code pc = .ok (.iinc j n, 3)) (q : Nat) (hq : lv[q]? = some (j, .int x)) (hv : x + Int32.ofInt n = v) (hn : j < 4) (hl2 : (j, Value.int v) :: lv.filter (fun q => !(q.1 == j) && !(q.1 + 1 == j && q.2.category == 2)) = lf) (k : GL Z σ μ lf (pc + 3) st) : GL Z σ μ lv pc st := by
  obtain ⟨p, l, e, s, m, below, meth, c, b, L, xs, Y⟩ := Z
  intro H locs ls hP hQ hS hl
  exact lv_iinc hZ.1 hZ.2.1 hd hl hq hv hn hl2 (fun ls2 hl3 => k H locs ls2 hP hQ hS hl3)
theorem l_tabIn (hZ : Lw Z) {x : Int32} {dflt lo hi : Int} {offs : Array Int} {len : Nat} {off : Int} (tgt : Nat) (hd : decode code pc = .ok (.tableswitch dflt lo hi offs, len)) (h1 : ¬ x.toInt < lo) (h2 : ¬ hi < x.toInt) (ho : offs[(x.toInt - lo).toNat]? = some off) (ht : (pc : Int) + off = (tgt : Int)) (k : GL Z σ μ lv tgt st) : GL Z σ μ lv pc (.int x :: st) := by
  obtain ⟨p, l, e, s, m, below, meth, c, b, L, xs, Y⟩ := Z
  intro H locs ls hP hQ hS hl
  exact lv_tableIn hZ.1 hZ.2.1 hd h1 h2 ho ht (k H locs ls hP hQ hS hl)
theorem l_tabOut (hZ : Lw Z) {x : Int32} {dflt lo hi : Int} {offs : Array Int} {len : Nat} (tgt : Nat) (hd : decode code pc = .ok (.tableswitch dflt lo hi offs, len)) (h : x.toInt < lo ∨ hi < x.toInt) (ht : (pc : Int) + dflt = (tgt : Int)) (k : GL Z σ μ lv tgt st) : GL Z σ μ lv pc (.int x :: st) := by
  obtain ⟨p, l, e, s, m, below, meth, c, b, L, xs, Y⟩ := Z
  intro H locs ls hP hQ hS hl
  exact lv_tableOut hZ.1 hZ.2.1 hd h ht (k H locs ls hP hQ hS hl)
theorem l_callO (hZ : Lw Z) {y : MethodName} {b : ByteArray} {nC idx n lv2 : Nat} {ret : Option FieldType} (As rest : List Value) {r : Option Value} {σ2 : Mem} (hm : MVok "OrderTreesLaw" idx R_O y b nC ret n) (hc : Ct (zl Z) (zY Z) 0 y b nC ret lv2 (.ref (adr (zY Z) 0) :: As) σ r σ2) (hv : lv2 + 1 ≤ 2048) (hv2 : 8 + (nC + 11) + 40 * lv2 ≤ 84000) (hn : As.length = n) (hrs : (rest.map fun v => v.category).sum ≤ 8) (hst : st = As.reverse ++ .ref (adr (zY Z) 0) :: rest) (hd : decode code pc = .ok (.invokevirtual idx, 3)) (kk : GL Z σ2 μ lv (pc + 3) (r.toList ++ rest)) : GL Z σ μ lv pc st := by
  subst hst
  obtain ⟨p, l, e, s, m, below, meth, c, b0, L, xs, Y⟩ := Z
  obtain ⟨hx, hb, hml, ho, hts, hK, hI0, hI1, hA0, hA1, hdj, hSt, hN, hX, hbl, hr, hlk, hL⟩ := hZ
  intro H locs ls hP hQ hS hl
  exact w_callV (Y := Y) (w := 0) (σ := σ) hx hb hml ho hts hK hI0 hSt hN hA0 (k := 0) (ci := 2) As rest hm hc hv hv2 ⟨Nat.le_refl 0, by decide⟩ rfl rfl hn hrs (Nat.le_of_ble_eq_true rfl) (Nat.le_of_ble_eq_true rfl) hd hl.1 hP hS (fun _ H1 locs1 hP1 hS1 hk1 _ => kk H1 locs1 ls hP1 (kept_w hQ hdj hk1) hS1 hl)
theorem l_callM (hZ : Lw Z) {y : MethodName} {b : ByteArray} {nC idx n lv2 : Nat} {ret : Option FieldType} (As rest : List Value) {r : Option Value} {μ2 : Mem} (hm : MVok "OrderTreesLaw" idx R_M y b nC ret n) (hc : Ct (zl Z) (zY Z) 1 y b nC ret lv2 (.ref (adr (zY Z) 43) :: As) μ r μ2) (hv : lv2 + 1 ≤ 2048) (hv2 : 8 + (nC + 11) + 40 * lv2 ≤ 84000) (hn : As.length = n) (hrs : (rest.map fun v => v.category).sum ≤ 8) (hst : st = As.reverse ++ .ref (adr (zY Z) 43) :: rest) (hd : decode code pc = .ok (.invokevirtual idx, 3)) (kk : GL Z σ μ2 lv (pc + 3) (r.toList ++ rest)) : GL Z σ μ lv pc st := by
  subst hst
  obtain ⟨p, l, e, s, m, below, meth, c, b0, L, xs, Y⟩ := Z
  obtain ⟨hx, hb, hml, ho, hts, hK, hI0, hI1, hA0, hA1, hdj, hSt, hN, hX, hbl, hr, hlk, hL⟩ := hZ
  intro H locs ls hP hQ hS hl
  exact w_callV (Y := Y) (w := 1) (σ := μ) hx hb hml ho hts hK hI1 hSt hN hA1 (k := 43) (ci := 3) As rest hm hc hv hv2 ⟨by decide, by decide⟩ rfl rfl hn hrs (Nat.le_of_ble_eq_true rfl) (Nat.le_of_ble_eq_true rfl) hd hl.1 hQ hS (fun _ H1 locs1 hP1 hS1 hk1 _ => kk H1 locs1 ls (kept_w hP (fun q z1 z2 => hdj q z2 z1) hk1) hP1 hS1 hl)
/- one of the script's numbers -/
theorem l_arg (hZ : Lw Z) {i j : Nat} {n : Int} {B1 B2 : Nat} (hi : i + j < zL Z) (hlv : lv = [(3, .int (nI i)), (2, .ref B2), (1, .ref B1), (0, .ref (zb Z))]) (d1 : decode code pc = .ok (.aload_n 0, 1)) (d2 : decode code (pc + 1) = .ok (.iload_n 3, 1)) (d3 : decode code (pc + 2) = .ok (.iconst n, 1)) (hn : Int32.ofInt n = nI j) (d4 : decode code (pc + 3) = .ok (.iadd, 1)) (d5 : decode code (pc + 4) = .ok (.iaload, 1)) (k : GL Z σ μ lv (pc + 5) (.int (zx Z (i + j)) :: st)) : GL Z σ μ lv pc st := by
  subst hlv
  refine l_aload hZ d1 3 rfl ?_
  refine l_iload hZ d2 0 rfl ?_
  refine l_iconst hZ (nI j) d3 hn ?_
  refine l_iadd hZ d4 ?_
  rw [nI_add]
  exact l_sld hZ hi d5 k
theorem l_ret (hZ : Lw Z) (hd : decode code pc = .ok (.ireturn, 1)) : GL Z σ μ lv pc [.int 1] := by
  obtain ⟨p, l, e, s, m, below, meth, c, b, L, xs, Y⟩ := Z
  obtain ⟨hx, hb, hml, ho, hts, hK, hI0, hI1, hA0, hA1, hdj, hSt, hN, hX, hbl, hr, hlk, hL⟩ := hZ
  intro H locs ls hP hQ hS hl
  refine va_forget hS.2.2 ?_
  refine W.widen (k := 600000) (n := 7302250) (Nat.le_of_ble_eq_true rfl) (Nat.le_of_ble_eq_true rfl) ?_
  exact lw_ret hx hb hr hlk hd
end
