def mu0 : Mem := fun k => match k with
  | 43 => fun i => if i = 0 then 5 else 0
  | _ => fun _ => 0
abbrev e0M : va_E := .inr (3, [.int 0, .int 0, .null, .null, .null, .null, .null, .int 0, .null, .null, .null, .null, .int 0, .null, .null, .null, .null, .null, .null, .null, .int 0, .int 0, .int 0, .null, .null, .null, .null, .null, .null, .int 0])
def RM0 : Room := { frames := 1, cells := 22, slots := 2082, locals := 12 }
set_option maxHeartbeats 4000000 in
set_option maxRecDepth 100000 in
theorem c_M_init (l : Launch) (Y : Wx) (h0 : Nat) : Cn l Y y_M_init b_M_init 1 RM0 22 2082 h0 e0M (fun _ _ => True) (fun w => ∃ a : Nat → Nat, a 43 = h0 ∧ w = wd (Y.1, Y.2.1, Y.2.2.1, a, Y.2.2.2.2) 1 mu0) := by
  refine cn_of (by decide) rfl (by decide) (fun X hXl hX hR hE => ?_)
  generalize va_A [(h0, e0M)] X.2.2.2.2.1.heap.size = A at hX hR ⊢
  refine n_aload_n hX d_M_init_0 0 rfl ?_
  refine n_objInit hX q_442 d_M_init_1 (Nat.le_of_ble_eq_true rfl) (Nat.le_of_ble_eq_true rfl) ?_
  refine n_aload_n hX d_M_init_4 0 rfl ?_
  refine n_iconst hX (5) d_M_init_5 (by decide) ?_
  refine n_putI hX 0 ty_M rfl lw_M ty_M_ok n_M (by decide) q_443 rfl rfl rfl (Nat.le_of_ble_eq_true rfl) d_M_init_6 ?_
  refine n_aload_n hX d_M_init_9 0 rfl ?_
  refine n_bipush hX 10 d_M_init_10 (by decide) ?_
  refine n_newI hX 10 (by decide) (by decide) (by decide) (Nat.le_of_ble_eq_true rfl) (Nat.le_of_ble_eq_true rfl) d_M_init_12 (fun v0 => ?_)
  refine n_putF hX 2 ty_M rfl lw_M ty_M_ok n_M (by decide) q_445 rfl rfl rfl rfl (Nat.le_of_ble_eq_true rfl) d_M_init_14 ?_
  refine n_aload_n hX d_M_init_17 0 rfl ?_
  refine n_sipush hX 256 d_M_init_18 (by decide) ?_
  refine n_newI hX 256 (by decide) (by decide) (by decide) (Nat.le_of_ble_eq_true rfl) (Nat.le_of_ble_eq_true rfl) d_M_init_21 (fun v1 => ?_)
  refine n_putF hX 3 ty_M rfl lw_M ty_M_ok n_M (by decide) q_446 rfl rfl rfl rfl (Nat.le_of_ble_eq_true rfl) d_M_init_23 ?_
  refine n_aload_n hX d_M_init_26 0 rfl ?_
  refine n_sipush hX 256 d_M_init_27 (by decide) ?_
  refine n_newI hX 256 (by decide) (by decide) (by decide) (Nat.le_of_ble_eq_true rfl) (Nat.le_of_ble_eq_true rfl) d_M_init_30 (fun v2 => ?_)
  refine n_putF hX 4 ty_M rfl lw_M ty_M_ok n_M (by decide) q_447 rfl rfl rfl rfl (Nat.le_of_ble_eq_true rfl) d_M_init_32 ?_
  refine n_aload_n hX d_M_init_35 0 rfl ?_
  refine n_sipush hX 256 d_M_init_36 (by decide) ?_
  refine n_newI hX 256 (by decide) (by decide) (by decide) (Nat.le_of_ble_eq_true rfl) (Nat.le_of_ble_eq_true rfl) d_M_init_39 (fun v3 => ?_)
  refine n_putF hX 5 ty_M rfl lw_M ty_M_ok n_M (by decide) q_448 rfl rfl rfl rfl (Nat.le_of_ble_eq_true rfl) d_M_init_41 ?_
  refine n_aload_n hX d_M_init_44 0 rfl ?_
  refine n_sipush hX 256 d_M_init_45 (by decide) ?_
  refine n_newI hX 256 (by decide) (by decide) (by decide) (Nat.le_of_ble_eq_true rfl) (Nat.le_of_ble_eq_true rfl) d_M_init_48 (fun v4 => ?_)
  refine n_putF hX 6 ty_M rfl lw_M ty_M_ok n_M (by decide) q_449 rfl rfl rfl rfl (Nat.le_of_ble_eq_true rfl) d_M_init_50 ?_
  refine n_aload_n hX d_M_init_53 0 rfl ?_
  refine n_bipush hX 8 d_M_init_54 (by decide) ?_
  refine n_newI hX 8 (by decide) (by decide) (by decide) (Nat.le_of_ble_eq_true rfl) (Nat.le_of_ble_eq_true rfl) d_M_init_56 (fun v5 => ?_)
  refine n_putF hX 8 ty_M rfl lw_M ty_M_ok n_M (by decide) q_451 rfl rfl rfl rfl (Nat.le_of_ble_eq_true rfl) d_M_init_58 ?_
  refine n_aload_n hX d_M_init_61 0 rfl ?_
  refine n_bipush hX 8 d_M_init_62 (by decide) ?_
  refine n_newI hX 8 (by decide) (by decide) (by decide) (Nat.le_of_ble_eq_true rfl) (Nat.le_of_ble_eq_true rfl) d_M_init_64 (fun v6 => ?_)
  refine n_putF hX 9 ty_M rfl lw_M ty_M_ok n_M (by decide) q_452 rfl rfl rfl rfl (Nat.le_of_ble_eq_true rfl) d_M_init_66 ?_
  refine n_aload_n hX d_M_init_69 0 rfl ?_
  refine n_bipush hX 8 d_M_init_70 (by decide) ?_
  refine n_newI hX 8 (by decide) (by decide) (by decide) (Nat.le_of_ble_eq_true rfl) (Nat.le_of_ble_eq_true rfl) d_M_init_72 (fun v7 => ?_)
  refine n_putF hX 10 ty_M rfl lw_M ty_M_ok n_M (by decide) q_453 rfl rfl rfl rfl (Nat.le_of_ble_eq_true rfl) d_M_init_74 ?_
  refine n_aload_n hX d_M_init_77 0 rfl ?_
  refine n_bipush hX 64 d_M_init_78 (by decide) ?_
  refine n_newI hX 64 (by decide) (by decide) (by decide) (Nat.le_of_ble_eq_true rfl) (Nat.le_of_ble_eq_true rfl) d_M_init_80 (fun v8 => ?_)
  refine n_putF hX 11 ty_M rfl lw_M ty_M_ok n_M (by decide) q_454 rfl rfl rfl rfl (Nat.le_of_ble_eq_true rfl) d_M_init_82 ?_
  refine n_aload_n hX d_M_init_85 0 rfl ?_
  refine n_bipush hX 40 d_M_init_86 (by decide) ?_
  refine n_newI hX 40 (by decide) (by decide) (by decide) (Nat.le_of_ble_eq_true rfl) (Nat.le_of_ble_eq_true rfl) d_M_init_88 (fun v9 => ?_)
  refine n_putF hX 13 ty_M rfl lw_M ty_M_ok n_M (by decide) q_456 rfl rfl rfl rfl (Nat.le_of_ble_eq_true rfl) d_M_init_90 ?_
  refine n_aload_n hX d_M_init_93 0 rfl ?_
  refine n_sipush hX 256 d_M_init_94 (by decide) ?_
  refine n_newI hX 256 (by decide) (by decide) (by decide) (Nat.le_of_ble_eq_true rfl) (Nat.le_of_ble_eq_true rfl) d_M_init_97 (fun v10 => ?_)
  refine n_putF hX 14 ty_M rfl lw_M ty_M_ok n_M (by decide) q_457 rfl rfl rfl rfl (Nat.le_of_ble_eq_true rfl) d_M_init_99 ?_
  refine n_aload_n hX d_M_init_102 0 rfl ?_
  refine n_bipush hX 64 d_M_init_103 (by decide) ?_
  refine n_newI hX 64 (by decide) (by decide) (by decide) (Nat.le_of_ble_eq_true rfl) (Nat.le_of_ble_eq_true rfl) d_M_init_105 (fun v11 => ?_)
  refine n_putF hX 15 ty_M rfl lw_M ty_M_ok n_M (by decide) q_458 rfl rfl rfl rfl (Nat.le_of_ble_eq_true rfl) d_M_init_107 ?_
  refine n_aload_n hX d_M_init_110 0 rfl ?_
  refine n_bipush hX 8 d_M_init_111 (by decide) ?_
  refine n_newI hX 8 (by decide) (by decide) (by decide) (Nat.le_of_ble_eq_true rfl) (Nat.le_of_ble_eq_true rfl) d_M_init_113 (fun v12 => ?_)
  refine n_putF hX 16 ty_M rfl lw_M ty_M_ok n_M (by decide) q_459 rfl rfl rfl rfl (Nat.le_of_ble_eq_true rfl) d_M_init_115 ?_
  refine n_aload_n hX d_M_init_118 0 rfl ?_
  refine n_bipush hX 8 d_M_init_119 (by decide) ?_
  refine n_newI hX 8 (by decide) (by decide) (by decide) (Nat.le_of_ble_eq_true rfl) (Nat.le_of_ble_eq_true rfl) d_M_init_121 (fun v13 => ?_)
  refine n_putF hX 17 ty_M rfl lw_M ty_M_ok n_M (by decide) q_460 rfl rfl rfl rfl (Nat.le_of_ble_eq_true rfl) d_M_init_123 ?_
  refine n_aload_n hX d_M_init_126 0 rfl ?_
  refine n_bipush hX 8 d_M_init_127 (by decide) ?_
  refine n_newI hX 8 (by decide) (by decide) (by decide) (Nat.le_of_ble_eq_true rfl) (Nat.le_of_ble_eq_true rfl) d_M_init_129 (fun v14 => ?_)
  refine n_putF hX 18 ty_M rfl lw_M ty_M_ok n_M (by decide) q_461 rfl rfl rfl rfl (Nat.le_of_ble_eq_true rfl) d_M_init_131 ?_
  refine n_aload_n hX d_M_init_134 0 rfl ?_
  refine n_sipush hX 256 d_M_init_135 (by decide) ?_
  refine n_newI hX 256 (by decide) (by decide) (by decide) (Nat.le_of_ble_eq_true rfl) (Nat.le_of_ble_eq_true rfl) d_M_init_138 (fun v15 => ?_)
  refine n_putF hX 19 ty_M rfl lw_M ty_M_ok n_M (by decide) q_462 rfl rfl rfl rfl (Nat.le_of_ble_eq_true rfl) d_M_init_140 ?_
  refine n_aload_n hX d_M_init_143 0 rfl ?_
  refine n_bipush hX 8 d_M_init_144 (by decide) ?_
  refine n_newI hX 8 (by decide) (by decide) (by decide) (Nat.le_of_ble_eq_true rfl) (Nat.le_of_ble_eq_true rfl) d_M_init_146 (fun v16 => ?_)
  refine n_putF hX 23 ty_M rfl lw_M ty_M_ok n_M (by decide) q_466 rfl rfl rfl rfl (Nat.le_of_ble_eq_true rfl) d_M_init_148 ?_
  refine n_aload_n hX d_M_init_151 0 rfl ?_
  refine n_iconst hX (4) d_M_init_152 (by decide) ?_
  refine n_newZ hX q_473 4 (by decide) (by decide) (by decide) (Nat.le_of_ble_eq_true rfl) (Nat.le_of_ble_eq_true rfl) d_M_init_153 (fun v17 => ?_)
  refine n_putF hX 24 ty_M rfl lw_M ty_M_ok n_M (by decide) q_467 rfl rfl rfl rfl (Nat.le_of_ble_eq_true rfl) d_M_init_155 ?_
  refine n_aload_n hX d_M_init_158 0 rfl ?_
  refine n_iconst hX (4) d_M_init_159 (by decide) ?_
  refine n_newI hX 4 (by decide) (by decide) (by decide) (Nat.le_of_ble_eq_true rfl) (Nat.le_of_ble_eq_true rfl) d_M_init_160 (fun v18 => ?_)
  refine n_putF hX 25 ty_M rfl lw_M ty_M_ok n_M (by decide) q_468 rfl rfl rfl rfl (Nat.le_of_ble_eq_true rfl) d_M_init_162 ?_
  refine n_aload_n hX d_M_init_165 0 rfl ?_
  refine n_iconst hX (4) d_M_init_166 (by decide) ?_
  refine n_newI hX 4 (by decide) (by decide) (by decide) (Nat.le_of_ble_eq_true rfl) (Nat.le_of_ble_eq_true rfl) d_M_init_167 (fun v19 => ?_)
  refine n_putF hX 26 ty_M rfl lw_M ty_M_ok n_M (by decide) q_469 rfl rfl rfl rfl (Nat.le_of_ble_eq_true rfl) d_M_init_169 ?_
  refine n_aload_n hX d_M_init_172 0 rfl ?_
  refine n_sipush hX 240 d_M_init_173 (by decide) ?_
  refine n_newI hX 240 (by decide) (by decide) (by decide) (Nat.le_of_ble_eq_true rfl) (Nat.le_of_ble_eq_true rfl) d_M_init_176 (fun v20 => ?_)
  refine n_putF hX 27 ty_M rfl lw_M ty_M_ok n_M (by decide) q_470 rfl rfl rfl rfl (Nat.le_of_ble_eq_true rfl) d_M_init_178 ?_
  refine n_aload_n hX d_M_init_181 0 rfl ?_
  refine n_bipush hX 60 d_M_init_182 (by decide) ?_
  refine n_newI hX 60 (by decide) (by decide) (by decide) (Nat.le_of_ble_eq_true rfl) (Nat.le_of_ble_eq_true rfl) d_M_init_184 (fun v21 => ?_)
  refine n_putF hX 28 ty_M rfl lw_M ty_M_ok n_M (by decide) q_471 rfl rfl rfl rfl (Nat.le_of_ble_eq_true rfl) d_M_init_186 ?_
  exact n_return hX hR ⟨fun k => [h0, v0, v1, v2, v3, v4, v5, v6, v7, v8, v9, v10, v11, v12, v13, v14, v15, v16, v17, v18, v19, v20, v21].getD (k - 43) 0, rfl, rfl⟩ (Nat.le_of_ble_eq_true rfl) (Nat.le_of_ble_eq_true rfl) d_M_init_189
