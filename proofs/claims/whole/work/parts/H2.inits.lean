def fM1 : Nat → Int32 := upd (upd (upd (upd (fun _ => 0) 0 (-1)) 1 (-1)) 2 (-1)) 3 (-1)
def fSt (i : Nat) : Nat → Int32 := fun j => if j < i then nI (2 ^ j) else 0
def fLn (i : Nat) : Nat → Int32 := fun j => if j < i then 1 else 0
def shW (Y : Wx) (a : Nat → Nat) : va_W := [(a 0, .inr (0, [.ref (a 1), .ref (a 2), .ref (a 3)])), (a 1, .inl (Y.2.1, 4, .inl fM1)), (a 2, .inl (Y.2.1, 4, .inl (fun _ => 0))), (a 3, .inl (Y.2.1, 240, .inl (fun _ => 0)))]
def trW (Y : Wx) (a : Nat → Nat) (i : Nat) : va_W := [(a 0, .inr (1, [.ref (a 1), .ref (a 2), .ref (a 3), .ref (a 4), .int 0, .int 0, .ref (a 5), .int 0, .ref (a 6), .int 0, .ref (a 7), .int 0, .ref (a 8), .ref (a 9), .ref (a 10)])), (a 1, .inl (Y.2.1, 24, .inl (fun _ => 0))), (a 2, .inl (Y.2.1, 24, .inl (fSt i))), (a 3, .inl (Y.2.1, 24, .inl (fun _ => 0))), (a 4, .inl (Y.2.1, 192, .inl (fun _ => 0))), (a 5, .inl (Y.2.1, 8, .inl (fun _ => 0))), (a 6, .inl (Y.2.1, 8, .inl (fun _ => 0))), (a 7, .inl (Y.2.1, 7, .inl (fun _ => 0))), (a 8, .inl (Y.2.1, 24, .inl (fun _ => 0))), (a 9, .inl (Y.2.1, 24, .inl (fLn i))), (a 10, .inl (Y.2.1, 24, .inl (fun _ => 0)))]
abbrev e0S : va_E := .inr (0, [.null, .null, .null])
abbrev e0T : va_E := .inr (1, [.null, .null, .null, .null, .int 0, .int 0, .null, .int 0, .null, .int 0, .null, .int 0, .null, .null, .null])
def RS0 : Room := { frames := 1, cells := 3, slots := 248, locals := 12 }
def RT0 : Room := { frames := 1, cells := 10, slots := 359, locals := 12 }
set_option maxHeartbeats 4000000 in
set_option maxRecDepth 100000 in
theorem c_S_init (l : Launch) (Y : Wx) (h0 : Nat) : Cn l Y y_S_init b_S_init 1 RS0 3 248 h0 e0S (fun _ _ => True) (fun w => ∃ a : Nat → Nat, a 0 = h0 ∧ w = shW Y a) := by
  refine cn_of (by decide) rfl (by decide) (fun X hXl hX hR hE => ?_)
  generalize va_A [(h0, e0S)] X.2.2.2.2.1.heap.size = A at hX hR ⊢
  refine n_aload_n hX d_S_init_0 0 rfl ?_
  refine n_objInit hX q_19 d_S_init_1 (Nat.le_of_ble_eq_true rfl) (Nat.le_of_ble_eq_true rfl) ?_
  refine n_aload_n hX d_S_init_4 0 rfl ?_
  refine n_iconst hX (4) d_S_init_5 (by decide) ?_
  refine n_newI hX 4 (by decide) (by decide) (by decide) (Nat.le_of_ble_eq_true rfl) (Nat.le_of_ble_eq_true rfl) d_S_init_6 (fun v0 => ?_)
  refine n_dup hX d_S_init_8 rfl ?_
  refine n_iconst hX (0) d_S_init_9 (by decide) ?_
  refine n_iconst hX (-1) d_S_init_10 (by decide) ?_
  refine n_iast hX 1 rfl (by unfold vp_in; decide) rfl d_S_init_11 ?_
  refine n_dup hX d_S_init_12 rfl ?_
  refine n_iconst hX (1) d_S_init_13 (by decide) ?_
  refine n_iconst hX (-1) d_S_init_14 (by decide) ?_
  refine n_iast hX 1 rfl (by unfold vp_in; decide) rfl d_S_init_15 ?_
  refine n_dup hX d_S_init_16 rfl ?_
  refine n_iconst hX (2) d_S_init_17 (by decide) ?_
  refine n_iconst hX (-1) d_S_init_18 (by decide) ?_
  refine n_iast hX 1 rfl (by unfold vp_in; decide) rfl d_S_init_19 ?_
  refine n_dup hX d_S_init_20 rfl ?_
  refine n_iconst hX (3) d_S_init_21 (by decide) ?_
  refine n_iconst hX (-1) d_S_init_22 (by decide) ?_
  refine n_iast hX 1 rfl (by unfold vp_in; decide) rfl d_S_init_23 ?_
  refine n_putF hX 0 ty_S rfl lw_S ty_S_ok n_S (by decide) q_20 rfl rfl rfl rfl (Nat.le_of_ble_eq_true rfl) d_S_init_24 ?_
  refine n_aload_n hX d_S_init_27 0 rfl ?_
  refine n_iconst hX (4) d_S_init_28 (by decide) ?_
  refine n_newI hX 4 (by decide) (by decide) (by decide) (Nat.le_of_ble_eq_true rfl) (Nat.le_of_ble_eq_true rfl) d_S_init_29 (fun v1 => ?_)
  refine n_putF hX 1 ty_S rfl lw_S ty_S_ok n_S (by decide) q_21 rfl rfl rfl rfl (Nat.le_of_ble_eq_true rfl) d_S_init_31 ?_
  refine n_aload_n hX d_S_init_34 0 rfl ?_
  refine n_sipush hX 240 d_S_init_35 (by decide) ?_
  refine n_newI hX 240 (by decide) (by decide) (by decide) (Nat.le_of_ble_eq_true rfl) (Nat.le_of_ble_eq_true rfl) d_S_init_38 (fun v2 => ?_)
  refine n_putF hX 2 ty_S rfl lw_S ty_S_ok n_S (by decide) q_22 rfl rfl rfl rfl (Nat.le_of_ble_eq_true rfl) d_S_init_40 ?_
  exact n_return hX hR ⟨fun k => [h0, v0, v1, v2].getD k 0, rfl, rfl⟩ (Nat.le_of_ble_eq_true rfl) (Nat.le_of_ble_eq_true rfl) d_S_init_43
theorem fSt_up {i : Nat} : upd (fSt i) i (nI (2 ^ i)) = fSt (i + 1) := by
  funext j
  rw [upd_at]
  unfold fSt
  by_cases q : j = i
  · rw [if_pos q, if_pos (by omega), q]
  · rw [if_neg q]
    by_cases q2 : j < i
    · rw [if_pos q2, if_pos (by omega)]
    · rw [if_neg q2, if_neg (by omega)]
theorem fLn_up {i : Nat} : upd (fLn i) i 1 = fLn (i + 1) := by
  funext j
  rw [upd_at]
  unfold fLn
  by_cases q : j = i
  · rw [if_pos q, if_pos (by omega)]
  · rw [if_neg q]
    by_cases q2 : j < i
    · rw [if_pos q2, if_pos (by omega)]
    · rw [if_neg q2, if_neg (by omega)]
theorem nI_cl {i : Nat} (h : i < 2 ^ 31) : (nI i).toNatClampNeg = i := by
  have := nI_toInt (n := i) h
  unfold Int32.toNatClampNeg
  rw [this]; rfl
set_option maxHeartbeats 4000000 in
set_option maxRecDepth 100000 in
theorem t_loop {X : Cx} {Y : Wx} {A : Nat → Prop} {B : va_W → Prop} (a : Nat → Nat) (hX : Fc X Y A b_T_init 2 R_T RT0) (hR : Rnc X Y A 10 359 B) (hB : B (trW Y a 8)) : ∀ k i : Nat, i + k = 8 → Gc X Y A (trW Y a i) 10 359 [(1, .int (nI i)), (0, .ref (a 0))] 112 []
  | 0, i, hi => by
    have hi : i = 8 := by omega
    subst hi
    refine n_iload_n hX d_T_init_112 0 rfl ?_
    refine n_bipush hX 8 d_T_init_113 (by decide) ?_
    refine n_icmp_ge hX 140 d_T_init_115 (by decide) (fun _ => ?_) (fun h => absurd (show (8 : Int32) ≤ nI 8 by decide) h)
    exact n_return hX hR hB (Nat.le_refl _) (Nat.le_refl _) d_T_init_140
  | k + 1, i, hi => by
    refine n_iload_n hX d_T_init_112 0 rfl ?_
    refine n_bipush hX 8 d_T_init_113 (by decide) ?_
    refine n_icmp_ge hX 140 d_T_init_115 (by decide) (fun h => absurd h (show ¬ (8 : Int32) ≤ nI i from nI_ge (b := 8) (by omega) (by omega))) (fun _ => ?_)
    refine n_aload_n hX d_T_init_118 1 rfl ?_
    refine n_getR hX fl_T_15 (q := a 2) rfl d_T_init_119 ?_
    refine n_iload_n hX d_T_init_122 0 rfl ?_
    refine n_iconst hX 1 d_T_init_123 (by decide) ?_
    refine n_iload_n hX d_T_init_124 0 rfl ?_
    refine n_ishl hX d_T_init_125 ?_
    have e1 : (1 : Int32) <<< (nI i &&& 31) = nI (2 ^ i) := xI_bit (by omega)
    rw [e1]
    have hin : vp_in (nI i) 24 := by
      unfold vp_in
      rw [nI_cl (by omega)]
      rintro (h | h)
      · exact nI_pos (by omega) h
      · omega
    refine n_iast hX (ws2 := (trW Y a i).set 2 (a 2, .inl (Y.2.1, 24, .inl (fSt (i + 1))))) 2 rfl hin (by rw [nI_cl (by omega), fSt_up]; rfl) d_T_init_126 ?_
    refine n_aload_n hX d_T_init_127 1 rfl ?_
    refine n_getR hX fl_T_52 (q := a 9) rfl d_T_init_128 ?_
    refine n_iload_n hX d_T_init_131 0 rfl ?_
    refine n_iconst hX 1 d_T_init_132 (by decide) ?_
    refine n_iast hX (ws2 := trW Y a (i + 1)) 9 rfl hin (by rw [nI_cl (by omega), fLn_up]; rfl) d_T_init_133 ?_
    refine n_iinc hX (nI (i + 1)) [(1, .int (nI (i + 1))), (0, .ref (a 0))] d_T_init_134 0 rfl (nI_1 _) (by decide) rfl ?_
    refine n_goto hX 112 d_T_init_137 (by decide) ?_
    exact t_loop a hX hR hB k (i + 1) (by omega)
set_option maxHeartbeats 4000000 in
set_option maxRecDepth 100000 in
theorem c_T_init (l : Launch) (Y : Wx) (h0 : Nat) : Cn l Y y_T_init b_T_init 2 RT0 10 359 h0 e0T (fun _ _ => True) (fun w => ∃ a : Nat → Nat, a 0 = h0 ∧ w = trW Y a 8) := by
  refine cn_of (by decide) rfl (by decide) (fun X hXl hX hR hE => ?_)
  generalize va_A [(h0, e0T)] X.2.2.2.2.1.heap.size = A at hX hR ⊢
  refine n_aload_n hX d_T_init_0 0 rfl ?_
  refine n_objInit hX q_29 d_T_init_1 (Nat.le_of_ble_eq_true rfl) (Nat.le_of_ble_eq_true rfl) ?_
  refine n_aload_n hX d_T_init_4 0 rfl ?_
  refine n_bipush hX 24 d_T_init_5 (by decide) ?_
  refine n_newI hX 24 (by decide) (by decide) (by decide) (Nat.le_of_ble_eq_true rfl) (Nat.le_of_ble_eq_true rfl) d_T_init_7 (fun v0 => ?_)
  refine n_putF hX 0 ty_T rfl lw_T ty_T_ok n_T (by decide) q_30 rfl rfl rfl rfl (Nat.le_of_ble_eq_true rfl) d_T_init_9 ?_
  refine n_aload_n hX d_T_init_12 0 rfl ?_
  refine n_bipush hX 24 d_T_init_13 (by decide) ?_
  refine n_newI hX 24 (by decide) (by decide) (by decide) (Nat.le_of_ble_eq_true rfl) (Nat.le_of_ble_eq_true rfl) d_T_init_15 (fun v1 => ?_)
  refine n_putF hX 1 ty_T rfl lw_T ty_T_ok n_T (by decide) q_31 rfl rfl rfl rfl (Nat.le_of_ble_eq_true rfl) d_T_init_17 ?_
  refine n_aload_n hX d_T_init_20 0 rfl ?_
  refine n_bipush hX 24 d_T_init_21 (by decide) ?_
  refine n_newI hX 24 (by decide) (by decide) (by decide) (Nat.le_of_ble_eq_true rfl) (Nat.le_of_ble_eq_true rfl) d_T_init_23 (fun v2 => ?_)
  refine n_putF hX 2 ty_T rfl lw_T ty_T_ok n_T (by decide) q_32 rfl rfl rfl rfl (Nat.le_of_ble_eq_true rfl) d_T_init_25 ?_
  refine n_aload_n hX d_T_init_28 0 rfl ?_
  refine n_sipush hX 192 d_T_init_29 (by decide) ?_
  refine n_newI hX 192 (by decide) (by decide) (by decide) (Nat.le_of_ble_eq_true rfl) (Nat.le_of_ble_eq_true rfl) d_T_init_32 (fun v3 => ?_)
  refine n_putF hX 3 ty_T rfl lw_T ty_T_ok n_T (by decide) q_33 rfl rfl rfl rfl (Nat.le_of_ble_eq_true rfl) d_T_init_34 ?_
  refine n_aload_n hX d_T_init_37 0 rfl ?_
  refine n_iconst hX (0) d_T_init_38 (by decide) ?_
  refine n_putI hX 4 ty_T rfl lw_T ty_T_ok n_T (by decide) q_34 rfl rfl rfl (Nat.le_of_ble_eq_true rfl) d_T_init_39 ?_
  refine n_aload_n hX d_T_init_42 0 rfl ?_
  refine n_iconst hX (0) d_T_init_43 (by decide) ?_
  refine n_putI hX 5 ty_T rfl lw_T ty_T_ok n_T (by decide) q_35 rfl rfl rfl (Nat.le_of_ble_eq_true rfl) d_T_init_44 ?_
  refine n_aload_n hX d_T_init_47 0 rfl ?_
  refine n_bipush hX 8 d_T_init_48 (by decide) ?_
  refine n_newI hX 8 (by decide) (by decide) (by decide) (Nat.le_of_ble_eq_true rfl) (Nat.le_of_ble_eq_true rfl) d_T_init_50 (fun v4 => ?_)
  refine n_putF hX 6 ty_T rfl lw_T ty_T_ok n_T (by decide) q_36 rfl rfl rfl rfl (Nat.le_of_ble_eq_true rfl) d_T_init_52 ?_
  refine n_aload_n hX d_T_init_55 0 rfl ?_
  refine n_iconst hX (0) d_T_init_56 (by decide) ?_
  refine n_putI hX 7 ty_T rfl lw_T ty_T_ok n_T (by decide) q_37 rfl rfl rfl (Nat.le_of_ble_eq_true rfl) d_T_init_57 ?_
  refine n_aload_n hX d_T_init_60 0 rfl ?_
  refine n_bipush hX 8 d_T_init_61 (by decide) ?_
  refine n_newI hX 8 (by decide) (by decide) (by decide) (Nat.le_of_ble_eq_true rfl) (Nat.le_of_ble_eq_true rfl) d_T_init_63 (fun v5 => ?_)
  refine n_putF hX 8 ty_T rfl lw_T ty_T_ok n_T (by decide) q_38 rfl rfl rfl rfl (Nat.le_of_ble_eq_true rfl) d_T_init_65 ?_
  refine n_aload_n hX d_T_init_68 0 rfl ?_
  refine n_iconst hX (0) d_T_init_69 (by decide) ?_
  refine n_putI hX 9 ty_T rfl lw_T ty_T_ok n_T (by decide) q_39 rfl rfl rfl (Nat.le_of_ble_eq_true rfl) d_T_init_70 ?_
  refine n_aload_n hX d_T_init_73 0 rfl ?_
  refine n_bipush hX 7 d_T_init_74 (by decide) ?_
  refine n_newI hX 7 (by decide) (by decide) (by decide) (Nat.le_of_ble_eq_true rfl) (Nat.le_of_ble_eq_true rfl) d_T_init_76 (fun v6 => ?_)
  refine n_putF hX 10 ty_T rfl lw_T ty_T_ok n_T (by decide) q_40 rfl rfl rfl rfl (Nat.le_of_ble_eq_true rfl) d_T_init_78 ?_
  refine n_aload_n hX d_T_init_81 0 rfl ?_
  refine n_iconst hX (0) d_T_init_82 (by decide) ?_
  refine n_putI hX 11 ty_T rfl lw_T ty_T_ok n_T (by decide) q_41 rfl rfl rfl (Nat.le_of_ble_eq_true rfl) d_T_init_83 ?_
  refine n_aload_n hX d_T_init_86 0 rfl ?_
  refine n_bipush hX 24 d_T_init_87 (by decide) ?_
  refine n_newI hX 24 (by decide) (by decide) (by decide) (Nat.le_of_ble_eq_true rfl) (Nat.le_of_ble_eq_true rfl) d_T_init_89 (fun v7 => ?_)
  refine n_putF hX 12 ty_T rfl lw_T ty_T_ok n_T (by decide) q_42 rfl rfl rfl rfl (Nat.le_of_ble_eq_true rfl) d_T_init_91 ?_
  refine n_aload_n hX d_T_init_94 0 rfl ?_
  refine n_bipush hX 24 d_T_init_95 (by decide) ?_
  refine n_newI hX 24 (by decide) (by decide) (by decide) (Nat.le_of_ble_eq_true rfl) (Nat.le_of_ble_eq_true rfl) d_T_init_97 (fun v8 => ?_)
  refine n_putF hX 13 ty_T rfl lw_T ty_T_ok n_T (by decide) q_43 rfl rfl rfl rfl (Nat.le_of_ble_eq_true rfl) d_T_init_99 ?_
  refine n_aload_n hX d_T_init_102 0 rfl ?_
  refine n_bipush hX 24 d_T_init_103 (by decide) ?_
  refine n_newI hX 24 (by decide) (by decide) (by decide) (Nat.le_of_ble_eq_true rfl) (Nat.le_of_ble_eq_true rfl) d_T_init_105 (fun v9 => ?_)
  refine n_putF hX 14 ty_T rfl lw_T ty_T_ok n_T (by decide) q_44 rfl rfl rfl rfl (Nat.le_of_ble_eq_true rfl) d_T_init_107 ?_
  refine n_iconst hX (0) d_T_init_110 (by decide) ?_
  refine n_istore_n hX [(1, .int 0), (0, .ref h0)] d_T_init_111 (by decide) rfl ?_
  have hf0 : fSt 0 = fun _ => 0 := by funext j; unfold fSt; exact if_neg (by omega)
  have hl0 : fLn 0 = fun _ => 0 := by funext j; unfold fLn; exact if_neg (by omega)
  have hw : trW Y (fun k => [h0, v0, v1, v2, v3, v4, v5, v6, v7, v8, v9].getD k 0) 0 = trW Y (fun k => [h0, v0, v1, v2, v3, v4, v5, v6, v7, v8, v9].getD k 0) 0 := rfl
  conv at hw => rhs; unfold trW; rw [hf0, hl0]
  refine n_eq (ws2 := trW Y (fun k => [h0, v0, v1, v2, v3, v4, v5, v6, v7, v8, v9].getD k 0) 0) ?_ (t_loop (fun k => [h0, v0, v1, v2, v3, v4, v5, v6, v7, v8, v9].getD k 0) hX hR ⟨fun k => [h0, v0, v1, v2, v3, v4, v5, v6, v7, v8, v9].getD k 0, rfl, rfl⟩ 8 0 rfl)
  rw [hw]; rfl
