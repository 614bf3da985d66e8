theorem nil_P {D : va_G} {H : Heap} : va_P D classes [] H := fun k q h => by simp at h
theorem nil_D {A : Nat → Prop} : va_D A [] := ⟨fun i j p q h => by simp at h, fun k q h => by simp at h⟩
def jn (a1 a2 : Nat → Nat) (k : Nat) : Nat := if k < 43 then a1 k else a2 k
set_option maxHeartbeats 4000000 in
/-- behind both constructors -/
theorem law_mid {p : Program} {e : Env} {s : State} {m : MethodId} {below : List Frame} {meth : Method} {c : Code} (l : Launch) {b L : Nat} {xs : Nat → Int32} (hL : L ≤ 3072) (C0 : lw_At p s m meth c b L xs) {Y0 : Wx} (hK : va_K Y0.1 classes (tysY Y0) s) (hZ : ∀ a : Nat → Nat, Sts (Y0.1, Y0.2.1, Y0.2.2.1, a, Y0.2.2.2.2) (fun q => s.heap.size ≤ q) s s.heap) (hN : Nwf s) {a1 a2 : Nat → Nat} {σ1 : Mem} (hrel : Rel σ1 mu0) {H : Heap} {locs : List Jvm.Loc} {ls : Array Slot} (hl : lv_has ls 4 [(2, .ref (a2 43)), (1, .ref (a1 0)), (0, .ref b)])
    (hP : va_P Y0.1 classes (wd (Y0.1, Y0.2.1, Y0.2.2.1, a1, Y0.2.2.2.2) 0 σ1 ++ mdW Y0 a2) H) (hD : va_D (fun q => s.heap.size ≤ q) (wd (Y0.1, Y0.2.1, Y0.2.2.1, a1, Y0.2.2.2.2) 0 σ1 ++ mdW Y0 a2)) (hS : va_S (fun q => s.heap.size ≤ q) s.heap H locs) : W p l e room_1 s m #[Value.ref b] below meth c H locs 66 3574 (lw_Z below #[Value.ref b] s) (F0 m 16 ls []) := by
  obtain ⟨hx, hb, hr, hml, hown, hts0, hX, hbl, hlocks, hgv⟩ := id C0
  have hts : ∀ z ∈ Tg, z.before #[Value.ref b] s = true := fun z hz => hts0 z (List.mem_filter.mp hz).1
  have w0 : wd (Y0.1, Y0.2.1, Y0.2.2.1, a1, Y0.2.2.2.2) 0 σ1 = wd (Y0.1, Y0.2.1, Y0.2.2.1, jn a1 a2, Y0.2.2.2.2) 0 σ1 := wd_same (Or.inl rfl) (fun j hj => by
    have h43 : j < 43 := hj.2
    show a1 j = jn a1 a2 j
    unfold jn
    rw [if_pos h43]) rfl rfl
  have w1 : mdW Y0 a2 = wd (Y0.1, Y0.2.1, Y0.2.2.1, jn a1 a2, Y0.2.2.2.2) 1 mu0 := (mdW_eq Y0 a2).trans (wd_same (Or.inr rfl) (fun j hj => by
    have h43 : 43 ≤ j := hj.1
    show a2 j = jn a1 a2 j
    unfold jn
    rw [if_neg (Nat.not_lt.mpr h43)]) rfl rfl)
  rw [w0, w1] at hP hD
  have hZ := hZ (jn a1 a2)
  have hK : va_K (Y0.1, Y0.2.1, Y0.2.2.1, jn a1 a2, Y0.2.2.2.2).1 classes (tysY (Y0.1, Y0.2.1, Y0.2.2.1, jn a1 a2, Y0.2.2.2.2)) s := hK
  have hl : lv_has ls 4 [(2, .ref (adr (Y0.1, Y0.2.1, Y0.2.2.1, jn a1 a2, Y0.2.2.2.2) 43)), (1, .ref (adr (Y0.1, Y0.2.1, Y0.2.2.1, jn a1 a2, Y0.2.2.2.2) 0)), (0, .ref b)] := hl
  have hP : va_P (Y0.1, Y0.2.1, Y0.2.2.1, jn a1 a2, Y0.2.2.2.2).1 classes (wd (Y0.1, Y0.2.1, Y0.2.2.1, jn a1 a2, Y0.2.2.2.2) 0 σ1 ++ wd (Y0.1, Y0.2.1, Y0.2.2.1, jn a1 a2, Y0.2.2.2.2) 1 mu0) H := hP
  generalize hYe : ((Y0.1, Y0.2.1, Y0.2.2.1, jn a1 a2, Y0.2.2.2.2) : Wx) = Y at hP hD hZ hK hl
  obtain ⟨hI0, hA0⟩ := wd_inj (D_left hD)
  obtain ⟨hI1, hA1⟩ := wd_inj (D_right hD)
  have hdj : ∀ q, Aw Y 0 q → ¬ Aw Y 1 q := by
    rintro q ⟨i, hi, e1⟩ ⟨j, hj, e2⟩
    exact D_apart hD (wd_get (σ := σ1) hi) (wd_get (σ := mu0) hj) (e1.symm.trans e2)
  have hLw : Lw (p, l, e, s, m, below, meth, c, b, L, xs, Y) := ⟨hx, hb, hml, hown, hts, hK, hI0, hI1, hA0, hA1, hdj, hZ, hN, hX, hbl, hr, hlocks, hL⟩
  refine lv_iconst hx hb d_L_16 (v := nI 0) (by decide) ?_
  refine lv_istore_n hx hb d_L_17 rfl hl (by decide) rfl (fun ls2 hl2 => ?_)
  exact l_loop hLw L 0 σ1 mu0 (by show L ≤ 0 + L; omega) (by omega) hrel H locs ls2 (P_left hP) (P_right hP) hS hl2
set_option maxHeartbeats 4000000 in
theorem whole_start {p : Program} {e : Env} {s : State} {m : MethodId} {below : List Frame} {meth : Method} {c : Code} (l : Launch) (hflags : l.flags = flags0) {b L : Nat} {xs : Nat → Int32} (hL : L ≤ 3072) (C0 : lw_At p s m meth c b L xs) : W p l e room_1 s m #[Value.ref b] below meth c s.heap [] 0 0 (lw_Z below #[Value.ref b] s) (entryFrame m ([Value.ref b] : List Value).toArray 4) := by
  obtain ⟨hx, hb, hr, hml, hown, hts0, hX, hbl, hlocks, hgv⟩ := id C0
  have hown : s.vm.findClass "OrderTreesLaw" = some m.cls := hown
  have hts : ∀ z ∈ Tg, z.before #[Value.ref b] s = true := fun z hz => hts0 z (List.mem_filter.mp hz).1
  obtain ⟨hN, hNS⟩ := law_nest hts0
  obtain ⟨σ1, hdr, hrel⟩ := start_rel
  obtain ⟨Y0, hK, hZ⟩ : ∃ Y0 : Wx, va_K Y0.1 classes (tysY Y0) s ∧ ∀ a : Nat → Nat, Sts (Y0.1, Y0.2.1, Y0.2.2.1, a, Y0.2.2.2.2) (fun q => s.heap.size ≤ q) s s.heap := by
    obtain ⟨D, cI, cZ, hK⟩ := law_K hts
    obtain ⟨sd, hsd⟩ := sts_0 hts0 hgv
    exact ⟨(D, cI, cZ, fun _ => 0, sd), hK, fun a => hsd D cI cZ a⟩
  have hA : ∀ q : Nat, s.heap.size ≤ q → (fun q : Nat => s.heap.size ≤ q) q := fun _ h => h
  have hS : va_S (fun q : Nat => s.heap.size ≤ q) s.heap s.heap [] := va_S.rf
  have hl := lv_entry ([.ref b]) (n := 4) (Nat.le_of_ble_eq_true rfl)
  rw [lg_entry_eq]
  generalize (lg_sl ([.ref b]) ++ List.replicate (4 - (lg_sl ([.ref b])).length) Slot.unset).toArray = ls at hl ⊢
  have hl : lv_has ls 4 [(0, .ref b)] := hl
  refine va_new (ci := 2) (fs := [.int 0, .null, .int 0, .int 0, .null, .int 0, .int 0, .null, .null, .null, .int 0, .null, .null, .null, .null]) (C := R_O) (T := F_O) (N := 15) hx hb hts lw_O ty_O ty_O_ok hown (hts _ q_8) (hts _ q_9) (hts _ q_1) hK nil_P nil_D hS hA rfl (by decide +kernel) (Nat.le_of_ble_eq_true rfl) (Nat.le_of_ble_eq_true rfl) d_L_0 (fun q0 H1 hP1 hD1 hS1 => ?_)
  refine lv_dup hx hb d_L_3 rfl ?_
  refine o_call (Y := Y0) (A := fun q => s.heap.size ≤ q) (e0 := e0O) (wr := []) hx hb hml hown hts hK hA [.ref q0] (c_O_init l Y0 q0 hdr) (fun sz a U g mk z => ⟨z.1, va_Nw.same rfl (u := U) (U := U.calling g mk a) rfl z.2.1, va_Nw.same rfl (u := U) (U := U.calling g mk a) rfl z.2.2⟩) (fun U hU hW => ⟨Sts.dn (hZ Y0.2.2.2.1) (fun q hq => ?_) hS1 hU hW, va_Nw.warmM hW hN, va_Nw.warmM hW hNS⟩) q_12 q_1 q_10 q_11 rfl (by decide +kernel) ⟨Nat.le_of_ble_eq_true rfl, Nat.le_of_ble_eq_true rfl⟩ rfl rfl ⟨Nat.le_of_ble_eq_true rfl, Nat.le_of_ble_eq_true rfl⟩ (Nat.le_of_ble_eq_true rfl) d_L_4 hl.1 hP1 hD1 hS1 (fun w1 H2 locs2 hB hP2 hD2 hS2 => ?_)
  · rcases hq with ⟨k, e9, hk⟩ | hq
    · exact hD1.2 k _ hk
    · exact Nat.le_trans hS1.1 hq
  obtain ⟨a1, ha1, rfl⟩ := hB
  subst ha1
  refine lv_astore_n hx hb d_L_7 rfl hl (by decide) rfl (fun ls2 hl2 => ?_)
  have hl2 : lv_has ls2 4 [(1, .ref (a1 0)), (0, .ref b)] := hl2
  refine va_new (ci := 3) (fs := [.int 0, .int 0, .null, .null, .null, .null, .null, .int 0, .null, .null, .null, .null, .int 0, .null, .null, .null, .null, .null, .null, .null, .int 0, .int 0, .int 0, .null, .null, .null, .null, .null, .null, .int 0]) (C := R_M) (T := F_M) (N := 30) hx hb hts lw_M ty_M ty_M_ok hown (hts _ q_437) (hts _ q_438) (hts _ q_5) hK hP2 hD2 hS2 hA rfl (by decide +kernel) (Nat.le_of_ble_eq_true rfl) (Nat.le_of_ble_eq_true rfl) d_L_8 (fun q1 H3 hP3 hD3 hS3 => ?_)
  refine lv_dup hx hb d_L_11 rfl ?_
  refine o_call (Y := Y0) (A := fun q => s.heap.size ≤ q) (e0 := e0M) (wr := wd (Y0.1, Y0.2.1, Y0.2.2.1, a1, Y0.2.2.2.2) 0 σ1) hx hb hml hown hts hK hA [.ref q1] (c_M_init l Y0 q1) (fun sz a U g mk z => trivial) (fun U hU hW => trivial) q_441 q_5 q_439 q_440 rfl (by decide +kernel) ⟨Nat.le_of_ble_eq_true rfl, Nat.le_of_ble_eq_true rfl⟩ rfl rfl ⟨Nat.le_of_ble_eq_true rfl, Nat.le_of_ble_eq_true rfl⟩ (Nat.le_of_ble_eq_true rfl) d_L_12 hl2.1 hP3 hD3 hS3 (fun w2 H4 locs4 hB hP4 hD4 hS4 => ?_)
  obtain ⟨a2, ha2, rfl⟩ := hB
  subst ha2
  refine lv_astore_n hx hb d_L_15 rfl hl2 (by decide) rfl (fun ls3 hl3 => ?_)
  exact law_mid l hL C0 hK hZ hN hrel hl3 hP4 hD4 hS4
