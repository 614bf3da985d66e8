set_option maxHeartbeats 4000000 in
set_option maxRecDepth 100000 in
theorem c_O_init (l : Launch) (Y : Wx) (h0 : Nat) {σ1 : Mem} (hf : O_drawAll sg0 = some σ1) : Cn l Y y_O_init b_O_init 1 RO0 42 1447 h0 e0O (fun sz U => Sts Y (va_A [(h0, e0O)] sz) U U.heap ∧ Nwf U ∧ NwS U) (fun w => ∃ a : Nat → Nat, a 0 = h0 ∧ w = wd (Y.1, Y.2.1, Y.2.2.1, a, Y.2.2.2.2) 0 σ1) := by
  refine cn_of (by decide) rfl (by decide) (fun X hXl hX hR hE => ?_)
  generalize va_A [(h0, e0O)] X.2.2.2.2.1.heap.size = A at hX hR hE ⊢
  refine n_aload_n hX d_O_init_0 0 rfl ?_
  refine n_objInit hX q_13 d_O_init_1 (Nat.le_of_ble_eq_true rfl) (Nat.le_of_ble_eq_true rfl) ?_
  refine n_aload_n hX d_O_init_4 0 rfl ?_
  refine n_putP hX 0 ty_O [.int 5, .null, .int 0, .int 0, .null, .int 0, .int 0, .null, .null, .null, .int 0, .null, .null, .null, .null] 9 d_O_init_5 rfl rfl lw_O ty_O_ok n_O (by decide) q_145 rfl ⟨rfl, rfl⟩ (Nat.le_of_ble_eq_true rfl) d_O_init_6 rfl rfl ?_
  refine n_aload_n hX d_O_init_9 0 rfl ?_
  refine n_bipush hX 10 d_O_init_10 (by decide) ?_
  refine n_newP hX 10 1 ty_O (fun q => [.int 5, .ref q, .int 0, .int 0, .null, .int 0, .int 0, .null, .null, .null, .int 0, .null, .null, .null, .null]) (fun q => [(q, .inl (Y.2.1, 10, .inl (fun _ => 0)))]) 1 10 17 (by decide) (by decide) (by decide) (Nat.le_of_ble_eq_true rfl) (Nat.le_of_ble_eq_true rfl) d_O_init_12 rfl lw_O ty_O_ok n_O (by decide) q_146 rfl rfl (fun _ => ⟨rfl, rfl⟩) (Nat.le_of_ble_eq_true rfl) d_O_init_14 (fun _ => rfl) (fun _ => rfl) rfl rfl rfl (fun v0 => ?_)
  refine n_aload_n hX d_O_init_17 0 rfl ?_
  refine n_putP hX 2 ty_O [.int 5, .ref v0, .int 0, .int 0, .null, .int 0, .int 0, .null, .null, .null, .int 0, .null, .null, .null, .null] 22 d_O_init_18 rfl rfl lw_O ty_O_ok n_O (by decide) q_147 rfl ⟨rfl, rfl⟩ (Nat.le_of_ble_eq_true rfl) d_O_init_19 rfl rfl ?_
  refine n_aload_n hX d_O_init_22 0 rfl ?_
  refine n_putP hX 3 ty_O [.int 5, .ref v0, .int 0, .int 0, .null, .int 0, .int 0, .null, .null, .null, .int 0, .null, .null, .null, .null] 27 d_O_init_23 rfl rfl lw_O ty_O_ok n_O (by decide) q_148 rfl ⟨rfl, rfl⟩ (Nat.le_of_ble_eq_true rfl) d_O_init_24 rfl rfl ?_
  refine n_aload_n hX d_O_init_27 0 rfl ?_
  refine n_bipush hX 8 d_O_init_28 (by decide) ?_
  refine n_newP hX 8 4 ty_O (fun q => [.int 5, .ref v0, .int 0, .int 0, .ref q, .int 0, .int 0, .null, .null, .null, .int 0, .null, .null, .null, .null]) (fun q => [(v0, .inl (Y.2.1, 10, .inl (fun _ => 0))), (q, .inl (Y.2.1, 8, .inl (fun _ => 0)))]) 2 18 35 (by decide) (by decide) (by decide) (Nat.le_of_ble_eq_true rfl) (Nat.le_of_ble_eq_true rfl) d_O_init_30 rfl lw_O ty_O_ok n_O (by decide) q_149 rfl rfl (fun _ => ⟨rfl, rfl⟩) (Nat.le_of_ble_eq_true rfl) d_O_init_32 (fun _ => rfl) (fun _ => rfl) rfl rfl rfl (fun v1 => ?_)
  refine n_aload_n hX d_O_init_35 0 rfl ?_
  refine n_putP hX 5 ty_O [.int 5, .ref v0, .int 0, .int 0, .ref v1, .int 0, .int 0, .null, .null, .null, .int 0, .null, .null, .null, .null] 40 d_O_init_36 rfl rfl lw_O ty_O_ok n_O (by decide) q_150 rfl ⟨rfl, rfl⟩ (Nat.le_of_ble_eq_true rfl) d_O_init_37 rfl rfl ?_
  refine n_aload_n hX d_O_init_40 0 rfl ?_
  refine n_putP hX 6 ty_O [.int 5, .ref v0, .int 0, .int 0, .ref v1, .int 0, .int 0, .null, .null, .null, .int 0, .null, .null, .null, .null] 45 d_O_init_41 rfl rfl lw_O ty_O_ok n_O (by decide) q_151 rfl ⟨rfl, rfl⟩ (Nat.le_of_ble_eq_true rfl) d_O_init_42 rfl rfl ?_
  refine n_aload_n hX d_O_init_45 0 rfl ?_
  refine n_newS hX hE.2.2 7 (fun q => [.int 5, .ref v0, .int 0, .int 0, .ref v1, .int 0, .int 0, .ref q, .null, .null, .int 0, .null, .null, .null, .null]) 6 269 56 d_O_init_46 d_O_init_49 d_O_init_50 d_O_init_53 (Nat.le_of_ble_eq_true rfl) (Nat.le_of_ble_eq_true rfl) (by decide) q_152 rfl rfl (fun _ => ⟨rfl, rfl⟩) (Nat.le_of_ble_eq_true rfl) (fun _ => rfl) rfl rfl rfl (fun aS => ?_)
  refine n_aload_n hX d_O_init_56 0 rfl ?_
  refine n_newT hX 8 (fun q => [.int 5, .ref v0, .int 0, .int 0, .ref v1, .int 0, .int 0, .ref (aS 0), .ref q, .null, .int 0, .null, .null, .null, .null]) 17 643 67 d_O_init_57 d_O_init_60 d_O_init_61 d_O_init_64 (Nat.le_of_ble_eq_true rfl) (Nat.le_of_ble_eq_true rfl) (by decide) q_153 rfl rfl (fun _ => ⟨rfl, rfl⟩) (Nat.le_of_ble_eq_true rfl) (fun _ => rfl) rfl rfl rfl (fun aT10 => ?_)
  refine n_aload_n hX d_O_init_67 0 rfl ?_
  refine n_bipush hX 40 d_O_init_68 (by decide) ?_
  refine n_newP hX 40 9 ty_O (fun q => [.int 5, .ref v0, .int 0, .int 0, .ref v1, .int 0, .int 0, .ref (aS 0), .ref (aT10 0), .ref q, .int 0, .null, .null, .null, .null]) (fun q => ((([(v0, .inl (Y.2.1, 10, .inl (fun _ => 0))), (v1, .inl (Y.2.1, 8, .inl (fun _ => 0)))] ++ shW Y aS) ++ trW Y aT10 8) ++ [(q, .inl (Y.2.1, 40, .inl (fun _ => 0)))])) 18 683 75 (by decide) (by decide) (by decide) (Nat.le_of_ble_eq_true rfl) (Nat.le_of_ble_eq_true rfl) d_O_init_70 rfl lw_O ty_O_ok n_O (by decide) q_154 rfl rfl (fun _ => ⟨rfl, rfl⟩) (Nat.le_of_ble_eq_true rfl) d_O_init_72 (fun _ => rfl) (fun _ => rfl) rfl rfl rfl (fun v2 => ?_)
  refine n_aload_n hX d_O_init_75 0 rfl ?_
  refine n_putP hX 10 ty_O [.int 5, .ref v0, .int 0, .int 0, .ref v1, .int 0, .int 0, .ref (aS 0), .ref (aT10 0), .ref v2, .int 0, .null, .null, .null, .null] 80 d_O_init_76 rfl rfl lw_O ty_O_ok n_O (by decide) q_155 rfl ⟨rfl, rfl⟩ (Nat.le_of_ble_eq_true rfl) d_O_init_77 rfl rfl ?_
  refine n_aload_n hX d_O_init_80 0 rfl ?_
  refine n_newT hX 11 (fun q => [.int 5, .ref v0, .int 0, .int 0, .ref v1, .int 0, .int 0, .ref (aS 0), .ref (aT10 0), .ref v2, .int 0, .ref q, .null, .null, .null]) 29 1057 91 d_O_init_81 d_O_init_84 d_O_init_85 d_O_init_88 (Nat.le_of_ble_eq_true rfl) (Nat.le_of_ble_eq_true rfl) (by decide) q_156 rfl rfl (fun _ => ⟨rfl, rfl⟩) (Nat.le_of_ble_eq_true rfl) (fun _ => rfl) rfl rfl rfl (fun aT21 => ?_)
  refine n_aload_n hX d_O_init_91 0 rfl ?_
  refine n_newT hX 12 (fun q => [.int 5, .ref v0, .int 0, .int 0, .ref v1, .int 0, .int 0, .ref (aS 0), .ref (aT10 0), .ref v2, .int 0, .ref (aT21 0), .ref q, .null, .null]) 40 1431 102 d_O_init_92 d_O_init_95 d_O_init_96 d_O_init_99 (Nat.le_of_ble_eq_true rfl) (Nat.le_of_ble_eq_true rfl) (by decide) q_157 rfl rfl (fun _ => ⟨rfl, rfl⟩) (Nat.le_of_ble_eq_true rfl) (fun _ => rfl) rfl rfl rfl (fun aT32 => ?_)
  refine n_aload_n hX d_O_init_102 0 rfl ?_
  refine n_bipush hX 8 d_O_init_103 (by decide) ?_
  refine n_newP hX 8 13 ty_O (fun q => [.int 5, .ref v0, .int 0, .int 0, .ref v1, .int 0, .int 0, .ref (aS 0), .ref (aT10 0), .ref v2, .int 0, .ref (aT21 0), .ref (aT32 0), .ref q, .null]) (fun q => (((((([(v0, .inl (Y.2.1, 10, .inl (fun _ => 0))), (v1, .inl (Y.2.1, 8, .inl (fun _ => 0)))] ++ shW Y aS) ++ trW Y aT10 8) ++ [(v2, .inl (Y.2.1, 40, .inl (fun _ => 0)))]) ++ trW Y aT21 8) ++ trW Y aT32 8) ++ [(q, .inl (Y.2.1, 8, .inl (fun _ => 0)))])) 41 1439 110 (by decide) (by decide) (by decide) (Nat.le_of_ble_eq_true rfl) (Nat.le_of_ble_eq_true rfl) d_O_init_105 rfl lw_O ty_O_ok n_O (by decide) q_158 rfl rfl (fun _ => ⟨rfl, rfl⟩) (Nat.le_of_ble_eq_true rfl) d_O_init_107 (fun _ => rfl) (fun _ => rfl) rfl rfl rfl (fun v3 => ?_)
  refine n_aload_n hX d_O_init_110 0 rfl ?_
  refine n_bipush hX 8 d_O_init_111 (by decide) ?_
  refine n_newP hX 8 14 ty_O (fun q => [.int 5, .ref v0, .int 0, .int 0, .ref v1, .int 0, .int 0, .ref (aS 0), .ref (aT10 0), .ref v2, .int 0, .ref (aT21 0), .ref (aT32 0), .ref v3, .ref q]) (fun q => ((((((([(v0, .inl (Y.2.1, 10, .inl (fun _ => 0))), (v1, .inl (Y.2.1, 8, .inl (fun _ => 0)))] ++ shW Y aS) ++ trW Y aT10 8) ++ [(v2, .inl (Y.2.1, 40, .inl (fun _ => 0)))]) ++ trW Y aT21 8) ++ trW Y aT32 8) ++ [(v3, .inl (Y.2.1, 8, .inl (fun _ => 0)))]) ++ [(q, .inl (Y.2.1, 8, .inl (fun _ => 0)))])) 42 1447 118 (by decide) (by decide) (by decide) (Nat.le_of_ble_eq_true rfl) (Nat.le_of_ble_eq_true rfl) d_O_init_113 rfl lw_O ty_O_ok n_O (by decide) q_159 rfl rfl (fun _ => ⟨rfl, rfl⟩) (Nat.le_of_ble_eq_true rfl) d_O_init_115 (fun _ => rfl) (fun _ => rfl) rfl rfl rfl (fun v4 => ?_)
  refine n_sub (ws2 := clW Y (fun k => [h0, v0, v1, v2, v3, v4, aS 0, aS 1, aS 2, aS 3, aT10 0, aT10 1, aT10 2, aT10 3, aT10 4, aT10 5, aT10 6, aT10 7, aT10 8, aT10 9, aT10 10, aT21 0, aT21 1, aT21 2, aT21 3, aT21 4, aT21 5, aT21 6, aT21 7, aT21 8, aT21 9, aT21 10, aT32 0, aT32 1, aT32 2, aT32 3, aT32 4, aT32 5, aT32 6, aT32 7, aT32 8, aT32 9, aT32 10].getD k 0)) [0, 1, 2, 18, 41, 42, 3, 4, 5, 6, 7, 8, 9, 10, 11, 12, 13, 14, 15, 16, 17, 19, 20, 21, 22, 23, 24, 25, 26, 27, 28, 29, 30, 31, 32, 33, 34, 35, 36, 37, 38, 39, 40] rfl (by decide) rfl ?_
  rw [clW_eq]
  refine n_aload_n hX d_O_init_118 0 rfl ?_
  refine n_draw hX (fun k => [h0, v0, v1, v2, v3, v4, aS 0, aS 1, aS 2, aS 3, aT10 0, aT10 1, aT10 2, aT10 3, aT10 4, aT10 5, aT10 6, aT10 7, aT10 8, aT10 9, aT10 10, aT21 0, aT21 1, aT21 2, aT21 3, aT21 4, aT21 5, aT21 6, aT21 7, aT21 8, aT21 9, aT21 10, aT32 0, aT32 1, aT32 2, aT32 3, aT32 4, aT32 5, aT32 6, aT32 7, aT32 8, aT32 9, aT32 10].getD k 0) hE.1 hE.2.1 hf (Nat.le_of_ble_eq_true rfl) (Nat.le_of_ble_eq_true rfl) d_O_init_119 ?_
  exact n_return hX hR ⟨fun k => [h0, v0, v1, v2, v3, v4, aS 0, aS 1, aS 2, aS 3, aT10 0, aT10 1, aT10 2, aT10 3, aT10 4, aT10 5, aT10 6, aT10 7, aT10 8, aT10 9, aT10 10, aT21 0, aT21 1, aT21 2, aT21 3, aT21 4, aT21 5, aT21 6, aT21 7, aT21 8, aT21 9, aT21 10, aT32 0, aT32 1, aT32 2, aT32 3, aT32 4, aT32 5, aT32 6, aT32 7, aT32 8, aT32 9, aT32 10].getD k 0, rfl, rfl⟩ (Nat.le_of_ble_eq_true rfl) (Nat.le_of_ble_eq_true rfl) d_O_init_122
