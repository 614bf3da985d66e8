noncomputable def M_rowOf (x1 : Int32) (x2 : Int32) (σ : Mem) : Option (Int32 × Mem) := (M_manyNow σ).bind (fun q => lt q.1 (fun vq1 => lt q.2 (fun σ2 => lt (if vq1 ≤ x1 then true else if x2 < (σ2 43 0) then false else true : Bool) (fun bq6 => if bq6 = true then some ((-1), σ2) else (M_findsTree σ2).bind (fun σ15 => (M_findsRow x1 σ15).bind (fun σ19 => (rd σ19 57 x2).bind (fun vq23 => some (vq23, σ19))))))))
set_option maxHeartbeats 4000000 in
set_option maxRecDepth 100000 in
theorem c_M_rowOf (l : Launch) (Y : Wx) (x1 : Int32) (x2 : Int32)  (σ : Mem) (o : Int32 × Mem) (hf : M_rowOf x1 x2 σ = some o) : Ct l Y 1 y_M_rowOf b_M_rowOf 3 (some .int) 7 [.ref (adr Y 43), .int x1, .int x2] σ (some (.int o.1)) o.2 := by
  unfold M_rowOf at hf
  refine ct_of (by decide) (Nat.le_of_ble_eq_true rfl) rfl (fun X hXl hX hR => ?_)
  subst hXl
  have hX : Fx X Y 1 b_M_rowOf 3 R_M 7 := hX
  refine g_iload_n hX d_M_rowOf_0 1 rfl ?_
  refine g_aload_n hX d_M_rowOf_1 0 rfl ?_
  obtain ⟨⟨vq1, σ2⟩, h3, h4⟩ := obind hf
  have h4 := lt2 h4
  refine g_callV hX [] [.int x1] mv_M_127 (c_M_manyNow X.2.1 Y σ _ h3) (by decide) iw_43 sh_43 rfl rfl rfl (Nat.le_of_ble_eq_true rfl) d_M_rowOf_2 (fun h5 => ?_)
  show Gd X Y 1 σ2 [(0, .ref (adr Y 43)), (1, .int x1), (2, .int x2)] 5 [.int vq1, .int x1]
  obtain ⟨bq6, h7, h8⟩ := ltex h4
  have Kbq6t : bq6 = true → Gd X Y 1 σ2 [(0, .ref (adr Y 43)), (1, .int x1), (2, .int x2)] 16 [] := by
    intro h25
    have h13 := (if_pos h25).symm.trans h8
    refine g_iconst hX (-1) d_M_rowOf_16 (by decide) ?_
    cases h13
    exact g_ireturn hX hR d_M_rowOf_17
  have Kbq6f : ¬ bq6 = true → Gd X Y 1 σ2 [(0, .ref (adr Y 43)), (1, .int x1), (2, .int x2)] 18 [] := by
    intro h25
    have h14 := (if_neg h25).symm.trans h8
    refine g_aload_n hX d_M_rowOf_18 0 rfl ?_
    obtain ⟨σ15, h16, h17⟩ := obind h14
    refine g_callV hX [] [] mv_M_171 (c_M_findsTree X.2.1 Y σ2 _ h16) (by decide) iw_43 sh_43 rfl rfl rfl (Nat.le_of_ble_eq_true rfl) d_M_rowOf_19 (fun h18 => ?_)
    show Gd X Y 1 σ15 [(0, .ref (adr Y 43)), (1, .int x1), (2, .int x2)] 22 []
    refine g_aload_n hX d_M_rowOf_22 0 rfl ?_
    refine g_iload_n hX d_M_rowOf_23 1 rfl ?_
    obtain ⟨σ19, h20, h21⟩ := obind h17
    refine g_callV hX [.int x1] [] mv_M_192 (c_M_findsRow X.2.1 Y x1 σ15 _ h20) (by decide) iw_43 sh_43 rfl rfl rfl (Nat.le_of_ble_eq_true rfl) d_M_rowOf_24 (fun h22 => ?_)
    show Gd X Y 1 σ19 [(0, .ref (adr Y 43)), (1, .int x1), (2, .int x2)] 27 []
    refine g_aload_n hX d_M_rowOf_27 0 rfl ?_
    refine g_getR hX iw_43 sh_43 rfl fl_M_53 d_M_rowOf_28 ?_
    refine g_iload_n hX d_M_rowOf_31 2 rfl ?_
    refine g_iaload hX iw_57 sh_57 d_M_rowOf_32 h21 (fun vq23 h24 => ?_)
    cases h24
    exact g_ireturn hX hR d_M_rowOf_33
  refine g_icmp_ge hX 16 d_M_rowOf_5 (by decide) h7 (fun h9 => ?_) (fun h10 => ?_)
  · cases h9
    exact Kbq6t rfl
  · refine g_iload_n hX d_M_rowOf_8 2 rfl ?_
    refine g_aload_n hX d_M_rowOf_9 0 rfl ?_
    refine g_getI hX iw_43 sh_43 rfl fl_M_7.f d_M_rowOf_10 ?_
    refine g_icmp_lt hX 18 d_M_rowOf_13 (by decide) h10 (fun h11 => ?_) (fun h12 => ?_)
    · cases h11
      exact Kbq6f (by decide)
    · cases h12
      exact Kbq6t rfl
noncomputable def M_row (x1 : Int32) (x2 : Int32) (σ : Mem) : Option (Int32 × Mem) := lt (if (M_in x1 0 40319) = 0 then false else if (M_in x2 0 7) = 0 then false else true : Bool) (fun bq2 => ((if bq2 = true then (M_rowOf x1 x2 σ).bind (fun q => lt q.1 (fun vq15 => lt q.2 (fun σ16 => some (vq15, σ16)))) else some ((-2), σ) : Option (Int32 × Mem))).bind (fun q => lt q.1 (fun vq20 => lt q.2 (fun σ21 => some (vq20, σ21)))))
set_option maxHeartbeats 4000000 in
set_option maxRecDepth 100000 in
theorem c_M_row (l : Launch) (Y : Wx) (x1 : Int32) (x2 : Int32)  (σ : Mem) (o : Int32 × Mem) (hf : M_row x1 x2 σ = some o) : Ct l Y 1 y_M_row b_M_row 3 (some .int) 8 [.ref (adr Y 43), .int x1, .int x2] σ (some (.int o.1)) o.2 := by
  unfold M_row at hf
  refine ct_of (by decide) (Nat.le_of_ble_eq_true rfl) rfl (fun X hXl hX hR => ?_)
  subst hXl
  have hX : Fx X Y 1 b_M_row 3 R_M 8 := hX
  refine g_iload_n hX d_M_row_0 1 rfl ?_
  refine g_iconst hX 0 d_M_row_1 (by decide) ?_
  refine g_ldc hX d_M_row_2 q_595 ?_
  refine g_callS hX [.int x1, .int 0, .int 40319] [] mv_M_85 (c_M_in X.2.1 Y x1 0 40319 σ _ rfl) (by decide) rfl rfl (Nat.le_of_ble_eq_true rfl) d_M_row_4 (fun h1 => ?_)
  show Gd X Y 1 σ [(0, .ref (adr Y 43)), (1, .int x1), (2, .int x2)] 7 [.int (M_in x1 0 40319)]
  obtain ⟨bq2, h3, h4⟩ := ltex hf
  obtain ⟨⟨vq20, σ21⟩, h10, h11⟩ := obind h4
  have h11 := lt2 h11
  have KJ11 : Gd X Y 1 σ21 [] 31 [.int vq20] := by
    cases h11
    exact g_ireturn hX hR d_M_row_31
  have Kbq2t : bq2 = true → Gd X Y 1 σ [(0, .ref (adr Y 43)), (1, .int x1), (2, .int x2)] 20 [] := by
    intro h22
    have h13 := (if_pos h22).symm.trans h10
    refine g_aload_n hX d_M_row_20 0 rfl ?_
    refine g_iload_n hX d_M_row_21 1 rfl ?_
    refine g_iload_n hX d_M_row_22 2 rfl ?_
    obtain ⟨⟨vq15, σ16⟩, h17, h18⟩ := obind h13
    have h18 := lt2 h18
    refine g_callV hX [.int x1, .int x2] [] mv_M_196 (c_M_rowOf X.2.1 Y x1 x2 σ _ h17) (by decide) iw_43 sh_43 rfl rfl rfl (Nat.le_of_ble_eq_true rfl) d_M_row_23 (fun h19 => ?_)
    show Gd X Y 1 σ16 [(0, .ref (adr Y 43)), (1, .int x1), (2, .int x2)] 26 [.int vq15]
    refine g_goto hX 31 d_M_row_26 (by decide) ?_
    refine g_sub (lv2 := []) [] rfl ?_
    cases h18
    exact KJ11
  have Kbq2f : ¬ bq2 = true → Gd X Y 1 σ [(0, .ref (adr Y 43)), (1, .int x1), (2, .int x2)] 29 [] := by
    intro h22
    have h14 := (if_neg h22).symm.trans h10
    refine g_bipush hX (-2) d_M_row_29 (by decide) ?_
    refine g_sub (lv2 := []) [] rfl ?_
    cases h14
    exact KJ11
  refine g_if_eq hX 29 d_M_row_7 (by decide) h3 (fun h5 => ?_) (fun h6 => ?_)
  · cases h5
    exact Kbq2f (by decide)
  · refine g_iload_n hX d_M_row_10 2 rfl ?_
    refine g_iconst hX 0 d_M_row_11 (by decide) ?_
    refine g_bipush hX 7 d_M_row_12 (by decide) ?_
    refine g_callS hX [.int x2, .int 0, .int 7] [] mv_M_85 (c_M_in X.2.1 Y x2 0 7 σ _ rfl) (by decide) rfl rfl (Nat.le_of_ble_eq_true rfl) d_M_row_14 (fun h7 => ?_)
    show Gd X Y 1 σ [(0, .ref (adr Y 43)), (1, .int x1), (2, .int x2)] 17 [.int (M_in x2 0 7)]
    refine g_if_eq hX 29 d_M_row_17 (by decide) h6 (fun h8 => ?_) (fun h9 => ?_)
    · cases h8
      exact Kbq2f (by decide)
    · cases h9
      exact Kbq2t rfl
noncomputable def M_isSet (x1 : Int32) (σ : Mem) : Int32 := lt (if (M_in x1 0 255) = 0 then false else if (x1 &&& ((M_all σ) ^^^ (-1))) = 0 then true else false : Bool) (fun bq2 => lt (if bq2 = true then 1 else 0 : Int32) (fun vq15 => vq15))
set_option maxHeartbeats 4000000 in
set_option maxRecDepth 100000 in
theorem c_M_isSet (l : Launch) (Y : Wx) (x1 : Int32)  (σ : Mem) (o : Int32) (hf : M_isSet x1 σ = o) : Ct l Y 1 y_M_isSet b_M_isSet 2 (some .boolean) 1 [.ref (adr Y 43), .int x1] σ (some (.int o)) σ := by
  unfold M_isSet at hf
  refine ct_of (by decide) (Nat.le_of_ble_eq_true rfl) rfl (fun X hXl hX hR => ?_)
  subst hXl
  have hX : Fx X Y 1 b_M_isSet 2 R_M 1 := hX
  refine g_iload_n hX d_M_isSet_0 1 rfl ?_
  refine g_iconst hX 0 d_M_isSet_1 (by decide) ?_
  refine g_sipush hX 255 d_M_isSet_2 (by decide) ?_
  refine g_callS hX [.int x1, .int 0, .int 255] [] mv_M_85 (c_M_in X.2.1 Y x1 0 255 σ _ rfl) (by decide) rfl rfl (Nat.le_of_ble_eq_true rfl) d_M_isSet_5 (fun h1 => ?_)
  show Gd X Y 1 σ [(0, .ref (adr Y 43)), (1, .int x1)] 8 [.int (M_in x1 0 255)]
  obtain ⟨bq2, h3, h4⟩ := ltex hf
  obtain ⟨vq15, h10, h11⟩ := ltex h4
  have KJ11 : okR (some .boolean) (some (.int vq15)) → Gd X Y 1 σ [] 27 [.int vq15] := by
    intro hbvq15
    cases h11
    exact g_zreturn hX hR hbvq15 d_M_isSet_27
  have Kbq2t : bq2 = true → Gd X Y 1 σ [(0, .ref (adr Y 43)), (1, .int x1)] 22 [] := by
    intro h16
    have h13 := (if_pos h16).symm.trans h10
    refine g_iconst hX 1 d_M_isSet_22 (by decide) ?_
    refine g_goto hX 27 d_M_isSet_23 (by decide) ?_
    refine g_sub (lv2 := []) [] rfl ?_
    cases h13
    exact KJ11 okB1
  have Kbq2f : ¬ bq2 = true → Gd X Y 1 σ [(0, .ref (adr Y 43)), (1, .int x1)] 26 [] := by
    intro h16
    have h14 := (if_neg h16).symm.trans h10
    refine g_iconst hX 0 d_M_isSet_26 (by decide) ?_
    refine g_sub (lv2 := []) [] rfl ?_
    cases h14
    exact KJ11 okB0
  refine g_if_eq hX 26 d_M_isSet_8 (by decide) h3 (fun h5 => ?_) (fun h6 => ?_)
  · cases h5
    exact Kbq2f (by decide)
  · refine g_iload_n hX d_M_isSet_11 1 rfl ?_
    refine g_aload_n hX d_M_isSet_12 0 rfl ?_
    refine g_callV hX [] [.int x1] mv_M_110 (c_M_all X.2.1 Y σ _ rfl) (by decide) iw_43 sh_43 rfl rfl rfl (Nat.le_of_ble_eq_true rfl) d_M_isSet_13 (fun h7 => ?_)
    show Gd X Y 1 σ [(0, .ref (adr Y 43)), (1, .int x1)] 16 [.int (M_all σ), .int x1]
    refine g_iconst hX (-1) d_M_isSet_16 (by decide) ?_
    refine g_ixor hX d_M_isSet_17 ?_
    refine g_iand hX d_M_isSet_18 ?_
    refine g_if_ne hX 26 d_M_isSet_19 (by decide) h6 (fun h8 => ?_) (fun h9 => ?_)
    · cases h8
      exact Kbq2f (by decide)
    · cases h9
      exact Kbq2t rfl
noncomputable def M_may (x1 : Int32) (σ : Mem) : Option (Int32 × Mem) := ((if (M_isSet x1 σ) = 0 then some ((-2), σ) else (M_takenNow σ).bind (fun q => lt q.1 (fun vq9 => lt q.2 (fun σ10 => (M_rowsBy vq9 x1 σ10).bind (fun q => lt q.1 (fun vq14 => lt q.2 (fun σ15 => if vq14 ≤ 0 then some (0, σ15) else some (1, σ15))))))) : Option (Int32 × Mem))).bind (fun q => lt q.1 (fun vq7 => lt q.2 (fun σ8 => some (vq7, σ8))))
set_option maxHeartbeats 4000000 in
set_option maxRecDepth 100000 in
theorem c_M_may (l : Launch) (Y : Wx) (x1 : Int32)  (σ : Mem) (o : Int32 × Mem) (hf : M_may x1 σ = some o) : Ct l Y 1 y_M_may b_M_may 2 (some .int) 4 [.ref (adr Y 43), .int x1] σ (some (.int o.1)) o.2 := by
  unfold M_may at hf
  refine ct_of (by decide) (Nat.le_of_ble_eq_true rfl) rfl (fun X hXl hX hR => ?_)
  subst hXl
  have hX : Fx X Y 1 b_M_may 2 R_M 4 := hX
  refine g_aload_n hX d_M_may_0 0 rfl ?_
  refine g_iload_n hX d_M_may_1 1 rfl ?_
  refine g_callV hX [.int x1] [] mv_M_199 (c_M_isSet X.2.1 Y x1 σ _ rfl) (by decide) iw_43 sh_43 rfl rfl rfl (Nat.le_of_ble_eq_true rfl) d_M_may_2 (fun h1 => ?_)
  show Gd X Y 1 σ [(0, .ref (adr Y 43)), (1, .int x1)] 5 [.int (M_isSet x1 σ)]
  obtain ⟨⟨vq7, σ8⟩, h2, h3⟩ := obind hf
  have h3 := lt2 h3
  have KJ3 : Gd X Y 1 σ8 [] 30 [.int vq7] := by
    cases h3
    exact g_ireturn hX hR d_M_may_30
  refine g_if_eq hX 28 d_M_may_5 (by decide) h2 (fun h5 => ?_) (fun h6 => ?_)
  · refine g_bipush hX (-2) d_M_may_28 (by decide) ?_
    refine g_sub (lv2 := []) [] rfl ?_
    cases h5
    exact KJ3
  · refine g_aload_n hX d_M_may_8 0 rfl ?_
    refine g_aload_n hX d_M_may_9 0 rfl ?_
    obtain ⟨⟨vq9, σ10⟩, h11, h12⟩ := obind h6
    have h12 := lt2 h12
    refine g_callV hX [] [.ref (adr Y 43)] mv_M_96 (c_M_takenNow X.2.1 Y σ _ h11) (by decide) iw_43 sh_43 rfl rfl rfl (Nat.le_of_ble_eq_true rfl) d_M_may_10 (fun h13 => ?_)
    show Gd X Y 1 σ10 [(0, .ref (adr Y 43)), (1, .int x1)] 13 [.int vq9, .ref (adr Y 43)]
    refine g_iload_n hX d_M_may_13 1 rfl ?_
    obtain ⟨⟨vq14, σ15⟩, h16, h17⟩ := obind h12
    have h17 := lt2 h17
    refine g_callV hX [.int vq9, .int x1] [] mv_M_117 (c_M_rowsBy X.2.1 Y vq9 x1 σ10 _ h16) (by decide) iw_43 sh_43 rfl rfl rfl (Nat.le_of_ble_eq_true rfl) d_M_may_14 (fun h18 => ?_)
    show Gd X Y 1 σ15 [(0, .ref (adr Y 43)), (1, .int x1)] 17 [.int vq14]
    refine g_if_le hX 24 d_M_may_17 (by decide) h17 (fun h19 => ?_) (fun h20 => ?_)
    · refine g_iconst hX 0 d_M_may_24 (by decide) ?_
      refine g_goto hX 30 d_M_may_25 (by decide) ?_
      refine g_sub (lv2 := []) [] rfl ?_
      cases h19
      exact KJ3
    · refine g_iconst hX 1 d_M_may_20 (by decide) ?_
      refine g_goto hX 30 d_M_may_21 (by decide) ?_
      refine g_sub (lv2 := []) [] rfl ?_
      cases h20
      exact KJ3
noncomputable def M_mustOf (x1 : Int32) (σ : Mem) : Option (Int32 × Mem) := (M_takenNow σ).bind (fun q => lt q.1 (fun vq1 => lt q.2 (fun σ2 => (M_rowsBy vq1 0 σ2).bind (fun q => lt q.1 (fun vq6 => lt q.2 (fun σ7 => (M_rowsBy vq1 x1 σ7).bind (fun q => lt q.1 (fun vq11 => lt q.2 (fun σ12 => lt (if vq11 = vq6 then 1 else 0 : Int32) (fun vq21 => some (vq21, σ12)))))))))))
set_option maxHeartbeats 4000000 in
set_option maxRecDepth 100000 in
theorem c_M_mustOf (l : Launch) (Y : Wx) (x1 : Int32)  (σ : Mem) (o : Int32 × Mem) (hf : M_mustOf x1 σ = some o) : Ct l Y 1 y_M_mustOf b_M_mustOf 4 (some .int) 4 [.ref (adr Y 43), .int x1] σ (some (.int o.1)) o.2 := by
  unfold M_mustOf at hf
  refine ct_of (by decide) (Nat.le_of_ble_eq_true rfl) rfl (fun X hXl hX hR => ?_)
  subst hXl
  have hX : Fx X Y 1 b_M_mustOf 4 R_M 4 := hX
  refine g_aload_n hX d_M_mustOf_0 0 rfl ?_
  obtain ⟨⟨vq1, σ2⟩, h3, h4⟩ := obind hf
  have h4 := lt2 h4
  refine g_callV hX [] [] mv_M_96 (c_M_takenNow X.2.1 Y σ _ h3) (by decide) iw_43 sh_43 rfl rfl rfl (Nat.le_of_ble_eq_true rfl) d_M_mustOf_1 (fun h5 => ?_)
  show Gd X Y 1 σ2 [(0, .ref (adr Y 43)), (1, .int x1)] 4 [.int vq1]
  refine g_istore_nV hX [(2, .int vq1), (0, .ref (adr Y 43)), (1, .int x1)] d_M_mustOf_4 (by decide) rfl ?_
  refine g_aload_n hX d_M_mustOf_5 1 rfl ?_
  refine g_iload_n hX d_M_mustOf_6 0 rfl ?_
  refine g_iconst hX 0 d_M_mustOf_7 (by decide) ?_
  obtain ⟨⟨vq6, σ7⟩, h8, h9⟩ := obind h4
  have h9 := lt2 h9
  refine g_callV hX [.int vq1, .int 0] [] mv_M_117 (c_M_rowsBy X.2.1 Y vq1 0 σ2 _ h8) (by decide) iw_43 sh_43 rfl rfl rfl (Nat.le_of_ble_eq_true rfl) d_M_mustOf_8 (fun h10 => ?_)
  show Gd X Y 1 σ7 [(2, .int vq1), (0, .ref (adr Y 43)), (1, .int x1)] 11 [.int vq6]
  refine g_istore_nV hX [(3, .int vq6), (2, .int vq1), (0, .ref (adr Y 43)), (1, .int x1)] d_M_mustOf_11 (by decide) rfl ?_
  refine g_aload_n hX d_M_mustOf_12 2 rfl ?_
  refine g_iload_n hX d_M_mustOf_13 1 rfl ?_
  refine g_iload_n hX d_M_mustOf_14 3 rfl ?_
  obtain ⟨⟨vq11, σ12⟩, h13, h14⟩ := obind h9
  have h14 := lt2 h14
  refine g_callV hX [.int vq1, .int x1] [] mv_M_117 (c_M_rowsBy X.2.1 Y vq1 x1 σ7 _ h13) (by decide) iw_43 sh_43 rfl rfl rfl (Nat.le_of_ble_eq_true rfl) d_M_mustOf_15 (fun h15 => ?_)
  show Gd X Y 1 σ12 [(3, .int vq6), (2, .int vq1), (0, .ref (adr Y 43)), (1, .int x1)] 18 [.int vq11]
  refine g_iload_n hX d_M_mustOf_18 0 rfl ?_
  obtain ⟨vq21, h16, h17⟩ := ltex h14
  have KJ17 : okR (some .boolean) (some (.int vq21)) → Gd X Y 1 σ12 [] 27 [.int vq21] := by
    intro hbvq21
    cases h17
    exact g_ireturn hX hR d_M_mustOf_27
  refine g_icmp_ne hX 26 d_M_mustOf_19 (by decide) h16 (fun h19 => ?_) (fun h20 => ?_)
  · refine g_iconst hX 0 d_M_mustOf_26 (by decide) ?_
    refine g_sub (lv2 := []) [] rfl ?_
    cases h19
    exact KJ17 okB0
  · refine g_iconst hX 1 d_M_mustOf_22 (by decide) ?_
    refine g_goto hX 27 d_M_mustOf_23 (by decide) ?_
    refine g_sub (lv2 := []) [] rfl ?_
    cases h20
    exact KJ17 okB1
noncomputable def M_must (x1 : Int32) (σ : Mem) : Option (Int32 × Mem) := ((if (M_isSet x1 σ) = 0 then some ((-2), σ) else (M_mustOf x1 σ).bind (fun q => lt q.1 (fun vq9 => lt q.2 (fun σ10 => some (vq9, σ10)))) : Option (Int32 × Mem))).bind (fun q => lt q.1 (fun vq7 => lt q.2 (fun σ8 => some (vq7, σ8))))
set_option maxHeartbeats 4000000 in
set_option maxRecDepth 100000 in
theorem c_M_must (l : Launch) (Y : Wx) (x1 : Int32)  (σ : Mem) (o : Int32 × Mem) (hf : M_must x1 σ = some o) : Ct l Y 1 y_M_must b_M_must 2 (some .int) 5 [.ref (adr Y 43), .int x1] σ (some (.int o.1)) o.2 := by
  unfold M_must at hf
  refine ct_of (by decide) (Nat.le_of_ble_eq_true rfl) rfl (fun X hXl hX hR => ?_)
  subst hXl
  have hX : Fx X Y 1 b_M_must 2 R_M 5 := hX
  refine g_aload_n hX d_M_must_0 0 rfl ?_
  refine g_iload_n hX d_M_must_1 1 rfl ?_
  refine g_callV hX [.int x1] [] mv_M_199 (c_M_isSet X.2.1 Y x1 σ _ rfl) (by decide) iw_43 sh_43 rfl rfl rfl (Nat.le_of_ble_eq_true rfl) d_M_must_2 (fun h1 => ?_)
  show Gd X Y 1 σ [(0, .ref (adr Y 43)), (1, .int x1)] 5 [.int (M_isSet x1 σ)]
  obtain ⟨⟨vq7, σ8⟩, h2, h3⟩ := obind hf
  have h3 := lt2 h3
  have KJ3 : Gd X Y 1 σ8 [] 18 [.int vq7] := by
    cases h3
    exact g_ireturn hX hR d_M_must_18
  refine g_if_eq hX 16 d_M_must_5 (by decide) h2 (fun h5 => ?_) (fun h6 => ?_)
  · refine g_bipush hX (-2) d_M_must_16 (by decide) ?_
    refine g_sub (lv2 := []) [] rfl ?_
    cases h5
    exact KJ3
  · refine g_aload_n hX d_M_must_8 0 rfl ?_
    refine g_iload_n hX d_M_must_9 1 rfl ?_
    obtain ⟨⟨vq9, σ10⟩, h11, h12⟩ := obind h6
    have h12 := lt2 h12
    refine g_callV hX [.int x1] [] mv_M_202 (c_M_mustOf X.2.1 Y x1 σ _ h11) (by decide) iw_43 sh_43 rfl rfl rfl (Nat.le_of_ble_eq_true rfl) d_M_must_10 (fun h13 => ?_)
    show Gd X Y 1 σ10 [(0, .ref (adr Y 43)), (1, .int x1)] 13 [.int vq9]
    refine g_goto hX 18 d_M_must_13 (by decide) ?_
    refine g_sub (lv2 := []) [] rfl ?_
    cases h12
    exact KJ3
noncomputable def M_spansFrom_b1  (vq1 : Int32) (σ2 : Mem) : Option ((Int32 × Mem) ⊕ (Mem)) := if (M_all σ2) < vq1 then some (.inr σ2) else (wr σ2 59 vq1 0).bind (fun σ13 => lt (vq1 + 1) (fun vq15 => some (.inl (vq15, σ13))))
noncomputable def M_spansFrom_b2 (x1 : Int32) (x2 : Int32) (vq17 : Int32) (vq29 : Int32) (σ30 : Mem) : Option ((Int32 × Mem) ⊕ (Mem)) := if (σ30 43 0) ≤ vq29 then some (.inr σ30) else lt (vq17 ||| (1 <<< (vq29 &&& 31))) (fun vq40 => (rd σ30 46 vq17).bind (fun vq42 => lt (if (M_isIn vq42 vq29) = 0 then false else if (M_isIn vq17 x2) = 0 then if vq29 = x2 then false else true else false : Bool) (fun bq45 => lt (if bq45 = true then 1 else 0 : Int32) (fun vq60 => (rd σ30 59 vq40).bind (fun vq62 => lt (if vq60 = 0 then false else if vq29 = x1 then true else false : Bool) (fun bq64 => ((if bq64 = true then (M_many vq40).bind (fun vq76 => some (1 <<< (vq76 &&& 31))) else if vq60 = 0 then some 0 else (rd σ30 59 vq17).bind (fun vq83 => some vq83) : Option (Int32))).bind (fun vq80 => (wr σ30 59 vq40 (vq62 ||| vq80)).bind (fun σ86 => lt (vq29 + 1) (fun vq88 => some (.inl (vq88, σ86)))))))))))
noncomputable def M_spansFrom_b3 (x2 : Int32) (vq17 : Int32) (vq90 : Int32) (σ91 : Mem) : Option ((Int32 × Mem) ⊕ (Mem)) := ((if 9 ≤ vq90 then some false else (rd σ91 46 vq17).bind (fun vq104 => if (M_isIn vq104 x2) = 0 then some false else some true) : Option (Bool))).bind (fun bq99 => if bq99 = true then (rd σ91 59 vq17).bind (fun vq111 => ((if (M_isIn vq111 vq90) = 0 then some σ91 else (M_many vq17).bind (fun vq120 => lt (vq120 - vq90) (fun vq124 => lt (if (σ91 43 20) = (-1) then true else if (σ91 43 20) ≤ vq124 then false else true : Bool) (fun bq126 => lt (if bq126 = true then vq124 else (σ91 43 20) : Int32) (fun vq138 => lt (mput σ91 43 20 vq138) (fun σ140 => lt (if vq124 ≤ (σ140 43 21) then (σ140 43 21) else vq124 : Int32) (fun vq147 => lt (mput σ140 43 21 vq147) (fun σ148 => some σ148))))))) : Option (Mem))).bind (fun σ119 => lt (vq90 + 1) (fun vq150 => some (.inl (vq150, σ119))))) else some (.inr σ91))
noncomputable def M_spansFrom_b4 (x1 : Int32) (x2 : Int32) (vq17 : Int32) (σ18 : Mem) : Option ((Int32 × Mem) ⊕ (Mem)) := if (M_all σ18) ≤ vq17 then some (.inr σ18) else (lp (fun s => M_spansFrom_b2 x1 x2 vq17 s.1 s.2) fuel (0, σ18)).bind (fun σ31 => (lp (fun s => M_spansFrom_b3 x2 vq17 s.1 s.2) fuel (0, σ31)).bind (fun σ92 => lt (vq17 + 1) (fun vq153 => some (.inl (vq153, σ92)))))
noncomputable def M_spansFrom (x1 : Int32) (x2 : Int32) (σ : Mem) : Option (Mem) := (lp (fun s => M_spansFrom_b1 s.1 s.2) fuel (0, σ)).bind (fun σ3 => (lp (fun s => M_spansFrom_b4 x1 x2 s.1 s.2) fuel (0, σ3)).bind (fun σ19 => some σ19))
set_option maxHeartbeats 4000000 in
set_option maxRecDepth 100000 in
theorem c_M_spansFrom (l : Launch) (Y : Wx) (x1 : Int32) (x2 : Int32)  (σ : Mem) (o : Mem) (hf : M_spansFrom x1 x2 σ = some o) : Ct l Y 1 y_M_spansFrom b_M_spansFrom 7 none 2 [.ref (adr Y 43), .int x1, .int x2] σ none o := by
  unfold M_spansFrom at hf
  refine ct_of (by decide) (Nat.le_of_ble_eq_true rfl) rfl (fun X hXl hX hR => ?_)
  subst hXl
  have hX : Fx X Y 1 b_M_spansFrom 7 R_M 2 := hX
  refine g_iconst hX 0 d_M_spansFrom_0 (by decide) ?_
  refine g_istore_nV hX [(3, .int 0), (0, .ref (adr Y 43)), (1, .int x1), (2, .int x2)] d_M_spansFrom_1 (by decide) rfl ?_
  obtain ⟨σ3, h7, h8⟩ := obind hf
  have KX8 : Gd X Y 1 σ3 [(0, .ref (adr Y 43)), (1, .int x1), (2, .int x2)] 23 [] := by
    refine g_iconst hX 0 d_M_spansFrom_23 (by decide) ?_
    refine g_istore_nV hX [(3, .int 0), (0, .ref (adr Y 43)), (1, .int x1), (2, .int x2)] d_M_spansFrom_24 (by decide) rfl ?_
    obtain ⟨σ19, h23, h24⟩ := obind h8
    have KX24 : Gd X Y 1 σ19 [] 250 [] := by
      cases h24
      exact g_return hX hR d_M_spansFrom_250
    refine g_sub (lv2 := [(0, .ref (adr Y 43)), (1, .int x1), (2, .int x2), (3, .int 0)]) [1, 2, 3, 0] rfl ?_
    refine g_loop (fun s => M_spansFrom_b4 x1 x2 s.1 s.2) (fun s => Gd X Y 1 s.2 [(0, .ref (adr Y 43)), (1, .int x1), (2, .int x2), (3, .int s.1)] 25 []) σ19 ?_ fuel (0, σ3) h23
    intro s y22 h22 h20 h21
    obtain ⟨vq17, σ18⟩ := s
    have h22 : M_spansFrom_b4 x1 x2 vq17 σ18 = some y22 := h22
    unfold M_spansFrom_b4 at h22
    show Gd X Y 1 σ18 [(0, .ref (adr Y 43)), (1, .int x1), (2, .int x2), (3, .int vq17)] 25 []
    refine g_iload_n hX d_M_spansFrom_25 3 rfl ?_
    refine g_aload_n hX d_M_spansFrom_26 0 rfl ?_
    refine g_callV hX [] [.int vq17] mv_M_110 (c_M_all X.2.1 Y σ18 _ rfl) (by decide) iw_43 sh_43 rfl rfl rfl (Nat.le_of_ble_eq_true rfl) d_M_spansFrom_27 (fun h26 => ?_)
    show Gd X Y 1 σ18 [(0, .ref (adr Y 43)), (1, .int x1), (2, .int x2), (3, .int vq17)] 30 [.int (M_all σ18), .int vq17]
    refine g_icmp_ge hX 250 d_M_spansFrom_30 (by decide) h22 (fun h27 => ?_) (fun h28 => ?_)
    · refine g_sub (lv2 := []) [] rfl ?_
      cases h27
      have h25 := h21 σ18 rfl
      cases h25
      exact KX24
    · refine g_iconst hX 0 d_M_spansFrom_33 (by decide) ?_
      refine g_istoreV hX [(4, .int 0), (0, .ref (adr Y 43)), (1, .int x1), (2, .int x2), (3, .int vq17)] d_M_spansFrom_34 (by decide) rfl ?_
      obtain ⟨σ31, h35, h36⟩ := obind h28
      have KX36 : Gd X Y 1 σ31 [(0, .ref (adr Y 43)), (1, .int x1), (2, .int x2), (3, .int vq17)] 140 [] := by
        refine g_iconst hX 0 d_M_spansFrom_140 (by decide) ?_
        refine g_istoreV hX [(4, .int 0), (0, .ref (adr Y 43)), (1, .int x1), (2, .int x2), (3, .int vq17)] d_M_spansFrom_141 (by decide) rfl ?_
        obtain ⟨σ92, h96, h97⟩ := obind h36
        have KX97 : Gd X Y 1 σ92 [(0, .ref (adr Y 43)), (1, .int x1), (2, .int x2), (3, .int vq17)] 244 [] := by
          refine g_iinc hX (fun vq153 => [(3, .int vq153), (0, .ref (adr Y 43)), (1, .int x1), (2, .int x2)]) d_M_spansFrom_244 3 rfl rfl (by decide) (fun _ => rfl) h97 (fun vq153 h154 => ?_)
          refine g_goto hX 25 d_M_spansFrom_247 (by decide) ?_
          refine g_sub (lv2 := [(0, .ref (adr Y 43)), (1, .int x1), (2, .int x2), (3, .int vq153)]) [1, 2, 3, 0] rfl ?_
          cases h154
          exact h20 (vq153, σ92) rfl
        refine g_sub (lv2 := [(0, .ref (adr Y 43)), (1, .int x1), (2, .int x2), (3, .int vq17), (4, .int 0)]) [1, 2, 3, 4, 0] rfl ?_
        refine g_loop (fun s => M_spansFrom_b3 x2 vq17 s.1 s.2) (fun s => Gd X Y 1 s.2 [(0, .ref (adr Y 43)), (1, .int x1), (2, .int x2), (3, .int vq17), (4, .int s.1)] 143 []) σ92 ?_ fuel (0, σ31) h96
        intro s y95 h95 h93 h94
        obtain ⟨vq90, σ91⟩ := s
        have h95 : M_spansFrom_b3 x2 vq17 vq90 σ91 = some y95 := h95
        unfold M_spansFrom_b3 at h95
        show Gd X Y 1 σ91 [(0, .ref (adr Y 43)), (1, .int x1), (2, .int x2), (3, .int vq17), (4, .int vq90)] 143 []
        refine g_iload hX d_M_spansFrom_143 4 rfl ?_
        refine g_bipush hX 9 d_M_spansFrom_145 (by decide) ?_
        obtain ⟨bq99, h100, h101⟩ := obind h95
        have Kbq99t : bq99 = true → Gd X Y 1 σ91 [(0, .ref (adr Y 43)), (1, .int x1), (2, .int x2), (3, .int vq17), (4, .int vq90)] 163 [] := by
          intro h152
          have h109 := (if_pos h152).symm.trans h101
          refine g_aload_n hX d_M_spansFrom_163 0 rfl ?_
          refine g_getR hX iw_43 sh_43 rfl fl_M_59 d_M_spansFrom_164 ?_
          refine g_iload_n hX d_M_spansFrom_167 3 rfl ?_
          refine g_iaload hX iw_59 sh_59 d_M_spansFrom_168 h109 (fun vq111 h112 => ?_)
          refine g_iload hX d_M_spansFrom_169 4 rfl ?_
          refine g_callS hX [.int vq111, .int vq90] [] mv_M_81 (c_M_isIn X.2.1 Y vq111 vq90 σ91 _ rfl) (by decide) rfl rfl (Nat.le_of_ble_eq_true rfl) d_M_spansFrom_171 (fun h113 => ?_)
          show Gd X Y 1 σ91 [(0, .ref (adr Y 43)), (1, .int x1), (2, .int x2), (3, .int vq17), (4, .int vq90)] 174 [.int (M_isIn vq111 vq90)]
          obtain ⟨σ119, h114, h115⟩ := obind h112
          have KJ115 : Gd X Y 1 σ119 [(0, .ref (adr Y 43)), (1, .int x1), (2, .int x2), (3, .int vq17), (4, .int vq90)] 238 [] := by
            refine g_iinc hX (fun vq150 => [(4, .int vq150), (0, .ref (adr Y 43)), (1, .int x1), (2, .int x2), (3, .int vq17)]) d_M_spansFrom_238 4 rfl rfl (by decide) (fun _ => rfl) h115 (fun vq150 h151 => ?_)
            refine g_goto hX 143 d_M_spansFrom_241 (by decide) ?_
            refine g_sub (lv2 := [(0, .ref (adr Y 43)), (1, .int x1), (2, .int x2), (3, .int vq17), (4, .int vq150)]) [1, 2, 3, 4, 0] rfl ?_
            cases h151
            exact h93 (vq150, σ119) rfl
          refine g_if_eq hX 238 d_M_spansFrom_174 (by decide) h114 (fun h117 => ?_) (fun h118 => ?_)
          · refine g_sub (lv2 := [(0, .ref (adr Y 43)), (1, .int x1), (2, .int x2), (3, .int vq17), (4, .int vq90)]) [0, 1, 2, 3, 4] rfl ?_
            cases h117
            exact KJ115
          · refine g_iload_n hX d_M_spansFrom_177 3 rfl ?_
            obtain ⟨vq120, h121, h122⟩ := obind h118
            refine g_callS hX [.int vq17] [] mv_M_89 (c_M_many X.2.1 Y vq17 σ91 _ h121) (by decide) rfl rfl (Nat.le_of_ble_eq_true rfl) d_M_spansFrom_178 (fun h123 => ?_)
            show Gd X Y 1 σ91 [(0, .ref (adr Y 43)), (1, .int x1), (2, .int x2), (3, .int vq17), (4, .int vq90)] 181 [.int vq120]
            refine g_iload hX d_M_spansFrom_181 4 rfl ?_
            refine g_isub hX d_M_spansFrom_183 ?_
            refine g_istore hX (fun vq124 => [(5, .int vq124), (0, .ref (adr Y 43)), (1, .int x1), (2, .int x2), (3, .int vq17), (4, .int vq90)]) d_M_spansFrom_184 (by decide) (fun _ => rfl) h122 (fun vq124 h125 => ?_)
            refine g_aload_n hX d_M_spansFrom_186 1 rfl ?_
            refine g_aload_n hX d_M_spansFrom_187 1 rfl ?_
            refine g_getI hX iw_43 sh_43 rfl fl_M_205.f d_M_spansFrom_188 ?_
            refine g_iconst hX (-1) d_M_spansFrom_191 (by decide) ?_
            obtain ⟨bq126, h127, h128⟩ := ltex h125
            obtain ⟨vq138, h133, h134⟩ := ltex h128
            have KJ134 : Gd X Y 1 σ91 [(0, .ref (adr Y 43)), (1, .int x1), (2, .int x2), (3, .int vq17), (4, .int vq90), (5, .int vq124)] 213 [.int vq138, .ref (adr Y 43)] := by
              refine g_putI hX iw_43 sh_43 rfl fl_M_205 d_M_spansFrom_213 h134 (fun σ140 h141 => ?_)
              refine g_aload_n hX d_M_spansFrom_216 0 rfl ?_
              refine g_iload hX d_M_spansFrom_217 5 rfl ?_
              refine g_aload_n hX d_M_spansFrom_219 0 rfl ?_
              refine g_getI hX iw_43 sh_43 rfl fl_M_208.f d_M_spansFrom_220 ?_
              obtain ⟨vq147, h142, h143⟩ := ltex h141
              have KJ143 : Gd X Y 1 σ140 [(0, .ref (adr Y 43)), (1, .int x1), (2, .int x2), (3, .int vq17), (4, .int vq90)] 235 [.int vq147, .ref (adr Y 43)] := by
                refine g_putI hX iw_43 sh_43 rfl fl_M_208 d_M_spansFrom_235 h143 (fun σ148 h149 => ?_)
                refine g_sub (lv2 := [(0, .ref (adr Y 43)), (1, .int x1), (2, .int x2), (3, .int vq17), (4, .int vq90)]) [0, 1, 2, 3, 4] rfl ?_
                cases h149
                exact KJ115
              refine g_icmp_le hX 231 d_M_spansFrom_223 (by decide) h142 (fun h145 => ?_) (fun h146 => ?_)
              · refine g_aload_n hX d_M_spansFrom_231 0 rfl ?_
                refine g_getI hX iw_43 sh_43 rfl fl_M_208.f d_M_spansFrom_232 ?_
                refine g_sub (lv2 := [(0, .ref (adr Y 43)), (1, .int x1), (2, .int x2), (3, .int vq17), (4, .int vq90)]) [0, 1, 2, 3, 4] rfl ?_
                cases h145
                exact KJ143
              · refine g_iload hX d_M_spansFrom_226 5 rfl ?_
                refine g_goto hX 235 d_M_spansFrom_228 (by decide) ?_
                refine g_sub (lv2 := [(0, .ref (adr Y 43)), (1, .int x1), (2, .int x2), (3, .int vq17), (4, .int vq90)]) [0, 1, 2, 3, 4] rfl ?_
                cases h146
                exact KJ143
            have Kbq126t : bq126 = true → Gd X Y 1 σ91 [(5, .int vq124), (0, .ref (adr Y 43)), (1, .int x1), (2, .int x2), (3, .int vq17), (4, .int vq90)] 204 [.ref (adr Y 43)] := by
              intro h139
              have h136 := (if_pos h139).symm.trans h133
              refine g_iload hX d_M_spansFrom_204 0 rfl ?_
              refine g_goto hX 213 d_M_spansFrom_206 (by decide) ?_
              refine g_sub (lv2 := [(0, .ref (adr Y 43)), (1, .int x1), (2, .int x2), (3, .int vq17), (4, .int vq90), (5, .int vq124)]) [1, 2, 3, 4, 5, 0] rfl ?_
              cases h136
              exact KJ134
            have Kbq126f : ¬ bq126 = true → Gd X Y 1 σ91 [(5, .int vq124), (0, .ref (adr Y 43)), (1, .int x1), (2, .int x2), (3, .int vq17), (4, .int vq90)] 209 [.ref (adr Y 43)] := by
              intro h139
              have h137 := (if_neg h139).symm.trans h133
              refine g_aload_n hX d_M_spansFrom_209 1 rfl ?_
              refine g_getI hX iw_43 sh_43 rfl fl_M_205.f d_M_spansFrom_210 ?_
              refine g_sub (lv2 := [(0, .ref (adr Y 43)), (1, .int x1), (2, .int x2), (3, .int vq17), (4, .int vq90), (5, .int vq124)]) [1, 2, 3, 4, 5, 0] rfl ?_
              cases h137
              exact KJ134
            refine g_icmp_eq hX 204 d_M_spansFrom_192 (by decide) h127 (fun h129 => ?_) (fun h130 => ?_)
            · cases h129
              exact Kbq126t rfl
            · refine g_iload hX d_M_spansFrom_195 0 rfl ?_
              refine g_aload_n hX d_M_spansFrom_197 1 rfl ?_
              refine g_getI hX iw_43 sh_43 rfl fl_M_205.f d_M_spansFrom_198 ?_
              refine g_icmp_ge hX 209 d_M_spansFrom_201 (by decide) h130 (fun h131 => ?_) (fun h132 => ?_)
              · cases h131
                exact Kbq126f (by decide)
              · cases h132
                exact Kbq126t rfl
        have Kbq99f : ¬ bq99 = true → Gd X Y 1 σ91 [(0, .ref (adr Y 43)), (1, .int x1), (2, .int x2), (3, .int vq17), (4, .int vq90)] 244 [] := by
          intro h152
          have h110 := (if_neg h152).symm.trans h101
          refine g_sub (lv2 := [(0, .ref (adr Y 43)), (1, .int x1), (2, .int x2), (3, .int vq17)]) [0, 1, 2, 3] rfl ?_
          cases h110
          have h98 := h94 σ91 rfl
          cases h98
          exact KX97
        refine g_icmp_ge hX 244 d_M_spansFrom_147 (by decide) h100 (fun h102 => ?_) (fun h103 => ?_)
        · cases h102
          exact Kbq99f (by decide)
        · refine g_aload_n hX d_M_spansFrom_150 0 rfl ?_
          refine g_getR hX iw_43 sh_43 rfl fl_M_20 d_M_spansFrom_151 ?_
          refine g_iload_n hX d_M_spansFrom_154 3 rfl ?_
          refine g_iaload hX iw_46 sh_46 d_M_spansFrom_155 h103 (fun vq104 h105 => ?_)
          refine g_iload_n hX d_M_spansFrom_156 2 rfl ?_
          refine g_callS hX [.int vq104, .int x2] [] mv_M_81 (c_M_isIn X.2.1 Y vq104 x2 σ91 _ rfl) (by decide) rfl rfl (Nat.le_of_ble_eq_true rfl) d_M_spansFrom_157 (fun h106 => ?_)
          show Gd X Y 1 σ91 [(0, .ref (adr Y 43)), (1, .int x1), (2, .int x2), (3, .int vq17), (4, .int vq90)] 160 [.int (M_isIn vq104 x2)]
          refine g_if_eq hX 244 d_M_spansFrom_160 (by decide) h105 (fun h107 => ?_) (fun h108 => ?_)
          · cases h107
            exact Kbq99f (by decide)
          · cases h108
            exact Kbq99t rfl
      refine g_sub (lv2 := [(0, .ref (adr Y 43)), (1, .int x1), (2, .int x2), (3, .int vq17), (4, .int 0)]) [1, 2, 3, 4, 0] rfl ?_
      refine g_loop (fun s => M_spansFrom_b2 x1 x2 vq17 s.1 s.2) (fun s => Gd X Y 1 s.2 [(0, .ref (adr Y 43)), (1, .int x1), (2, .int x2), (3, .int vq17), (4, .int s.1)] 36 []) σ31 ?_ fuel (0, σ18) h35
      intro s y34 h34 h32 h33
      obtain ⟨vq29, σ30⟩ := s
      have h34 : M_spansFrom_b2 x1 x2 vq17 vq29 σ30 = some y34 := h34
      unfold M_spansFrom_b2 at h34
      show Gd X Y 1 σ30 [(0, .ref (adr Y 43)), (1, .int x1), (2, .int x2), (3, .int vq17), (4, .int vq29)] 36 []
      refine g_iload hX d_M_spansFrom_36 4 rfl ?_
      refine g_aload_n hX d_M_spansFrom_38 0 rfl ?_
      refine g_getI hX iw_43 sh_43 rfl fl_M_7.f d_M_spansFrom_39 ?_
      refine g_icmp_ge hX 140 d_M_spansFrom_42 (by decide) h34 (fun h38 => ?_) (fun h39 => ?_)
      · refine g_sub (lv2 := [(0, .ref (adr Y 43)), (1, .int x1), (2, .int x2), (3, .int vq17)]) [0, 1, 2, 3] rfl ?_
        cases h38
        have h37 := h33 σ30 rfl
        cases h37
        exact KX36
      · refine g_iload_n hX d_M_spansFrom_45 3 rfl ?_
        refine g_iconst hX 1 d_M_spansFrom_46 (by decide) ?_
        refine g_iload hX d_M_spansFrom_47 4 rfl ?_
        refine g_ishl hX d_M_spansFrom_49 ?_
        refine g_ior hX d_M_spansFrom_50 ?_
        refine g_istore hX (fun vq40 => [(5, .int vq40), (0, .ref (adr Y 43)), (1, .int x1), (2, .int x2), (3, .int vq17), (4, .int vq29)]) d_M_spansFrom_51 (by decide) (fun _ => rfl) h39 (fun vq40 h41 => ?_)
        refine g_aload_n hX d_M_spansFrom_53 1 rfl ?_
        refine g_getR hX iw_43 sh_43 rfl fl_M_20 d_M_spansFrom_54 ?_
        refine g_iload_n hX d_M_spansFrom_57 4 rfl ?_
        refine g_iaload hX iw_46 sh_46 d_M_spansFrom_58 h41 (fun vq42 h43 => ?_)
        refine g_iload hX d_M_spansFrom_59 5 rfl ?_
        refine g_callS hX [.int vq42, .int vq29] [] mv_M_81 (c_M_isIn X.2.1 Y vq42 vq29 σ30 _ rfl) (by decide) rfl rfl (Nat.le_of_ble_eq_true rfl) d_M_spansFrom_61 (fun h44 => ?_)
        show Gd X Y 1 σ30 [(5, .int vq40), (0, .ref (adr Y 43)), (1, .int x1), (2, .int x2), (3, .int vq17), (4, .int vq29)] 64 [.int (M_isIn vq42 vq29)]
        obtain ⟨bq45, h46, h47⟩ := ltex h43
        obtain ⟨vq60, h55, h56⟩ := ltex h47
        have KJ56 : okR (some .boolean) (some (.int vq60)) → Gd X Y 1 σ30 [(0, .ref (adr Y 43)), (1, .int x1), (2, .int x2), (3, .int vq17), (4, .int vq29), (5, .int vq40)] 86 [.int vq60] := by
          intro hbvq60
          refine g_istoreV hX [(6, .int vq60), (0, .ref (adr Y 43)), (1, .int x1), (2, .int x2), (3, .int vq17), (4, .int vq29), (5, .int vq40)] d_M_spansFrom_86 (by decide) rfl ?_
          refine g_aload_n hX d_M_spansFrom_88 1 rfl ?_
          refine g_getR hX iw_43 sh_43 rfl fl_M_59 d_M_spansFrom_89 ?_
          refine g_iload hX d_M_spansFrom_92 6 rfl ?_
          refine g_dup2 hX d_M_spansFrom_94 rfl rfl ?_
          refine g_iaload hX iw_59 sh_59 d_M_spansFrom_95 h56 (fun vq62 h63 => ?_)
          refine g_iload hX d_M_spansFrom_96 0 rfl ?_
          obtain ⟨bq64, h65, h66⟩ := ltex h63
          obtain ⟨vq80, h71, h72⟩ := obind h66
          have KJ72 : Gd X Y 1 σ30 [(0, .ref (adr Y 43)), (1, .int x1), (2, .int x2), (3, .int vq17), (4, .int vq29)] 132 [.int vq80, .int vq62, .int vq40, .ref (adr Y 59)] := by
            refine g_ior hX d_M_spansFrom_132 ?_
            refine g_iastore hX iw_59 sh_59 d_M_spansFrom_133 h72 (fun σ86 h87 => ?_)
            refine g_iinc hX (fun vq88 => [(4, .int vq88), (0, .ref (adr Y 43)), (1, .int x1), (2, .int x2), (3, .int vq17)]) d_M_spansFrom_134 4 rfl rfl (by decide) (fun _ => rfl) h87 (fun vq88 h89 => ?_)
            refine g_goto hX 36 d_M_spansFrom_137 (by decide) ?_
            refine g_sub (lv2 := [(0, .ref (adr Y 43)), (1, .int x1), (2, .int x2), (3, .int vq17), (4, .int vq88)]) [1, 2, 3, 4, 0] rfl ?_
            cases h89
            exact h32 (vq88, σ86) rfl
          have Kbq64t : bq64 = true → Gd X Y 1 σ30 [(6, .int vq60), (0, .ref (adr Y 43)), (1, .int x1), (2, .int x2), (3, .int vq17), (4, .int vq29), (5, .int vq40)] 107 [.int vq62, .int vq40, .ref (adr Y 59)] := by
            intro h85
            have h74 := (if_pos h85).symm.trans h71
            refine g_iconst hX 1 d_M_spansFrom_107 (by decide) ?_
            refine g_iload hX d_M_spansFrom_108 6 rfl ?_
            obtain ⟨vq76, h77, h78⟩ := obind h74
            refine g_callS hX [.int vq40] [.int 1, .int vq62, .int vq40, .ref (adr Y 59)] mv_M_89 (c_M_many X.2.1 Y vq40 σ30 _ h77) (by decide) rfl rfl (Nat.le_of_ble_eq_true rfl) d_M_spansFrom_110 (fun h79 => ?_)
            show Gd X Y 1 σ30 [(6, .int vq60), (0, .ref (adr Y 43)), (1, .int x1), (2, .int x2), (3, .int vq17), (4, .int vq29), (5, .int vq40)] 113 [.int vq76, .int 1, .int vq62, .int vq40, .ref (adr Y 59)]
            refine g_ishl hX d_M_spansFrom_113 ?_
            refine g_goto hX 132 d_M_spansFrom_114 (by decide) ?_
            refine g_sub (lv2 := [(0, .ref (adr Y 43)), (1, .int x1), (2, .int x2), (3, .int vq17), (4, .int vq29)]) [1, 2, 3, 4, 5] rfl ?_
            cases h78
            exact KJ72
          have Kbq64f : ¬ bq64 = true → Gd X Y 1 σ30 [(6, .int vq60), (0, .ref (adr Y 43)), (1, .int x1), (2, .int x2), (3, .int vq17), (4, .int vq29), (5, .int vq40)] 117 [.int vq62, .int vq40, .ref (adr Y 59)] := by
            intro h85
            have h75 := (if_neg h85).symm.trans h71
            refine g_iload hX d_M_spansFrom_117 0 rfl ?_
            refine g_if_eq hX 131 d_M_spansFrom_119 (by decide) h75 (fun h81 => ?_) (fun h82 => ?_)
            · refine g_iconst hX 0 d_M_spansFrom_131 (by decide) ?_
              refine g_sub (lv2 := [(0, .ref (adr Y 43)), (1, .int x1), (2, .int x2), (3, .int vq17), (4, .int vq29)]) [1, 2, 3, 4, 5] rfl ?_
              cases h81
              exact KJ72
            · refine g_aload_n hX d_M_spansFrom_122 1 rfl ?_
              refine g_getR hX iw_43 sh_43 rfl fl_M_59 d_M_spansFrom_123 ?_
              refine g_iload_n hX d_M_spansFrom_126 4 rfl ?_
              refine g_iaload hX iw_59 sh_59 d_M_spansFrom_127 h82 (fun vq83 h84 => ?_)
              refine g_goto hX 132 d_M_spansFrom_128 (by decide) ?_
              refine g_sub (lv2 := [(0, .ref (adr Y 43)), (1, .int x1), (2, .int x2), (3, .int vq17), (4, .int vq29)]) [1, 2, 3, 4, 5] rfl ?_
              cases h84
              exact KJ72
          refine g_if_eq hX 117 d_M_spansFrom_98 (by decide) h65 (fun h67 => ?_) (fun h68 => ?_)
          · cases h67
            exact Kbq64f (by decide)
          · refine g_iload hX d_M_spansFrom_101 5 rfl ?_
            refine g_iload_n hX d_M_spansFrom_103 2 rfl ?_
            refine g_icmp_ne hX 117 d_M_spansFrom_104 (by decide) h68 (fun h69 => ?_) (fun h70 => ?_)
            · cases h69
              exact Kbq64f (by decide)
            · cases h70
              exact Kbq64t rfl
        have Kbq45t : bq45 = true → Gd X Y 1 σ30 [(5, .int vq40), (0, .ref (adr Y 43)), (1, .int x1), (2, .int x2), (3, .int vq17), (4, .int vq29)] 81 [] := by
          intro h61
          have h58 := (if_pos h61).symm.trans h55
          refine g_iconst hX 1 d_M_spansFrom_81 (by decide) ?_
          refine g_goto hX 86 d_M_spansFrom_82 (by decide) ?_
          refine g_sub (lv2 := [(0, .ref (adr Y 43)), (1, .int x1), (2, .int x2), (3, .int vq17), (4, .int vq29), (5, .int vq40)]) [1, 2, 3, 4, 5, 0] rfl ?_
          cases h58
          exact KJ56 okB1
        have Kbq45f : ¬ bq45 = true → Gd X Y 1 σ30 [(5, .int vq40), (0, .ref (adr Y 43)), (1, .int x1), (2, .int x2), (3, .int vq17), (4, .int vq29)] 85 [] := by
          intro h61
          have h59 := (if_neg h61).symm.trans h55
          refine g_iconst hX 0 d_M_spansFrom_85 (by decide) ?_
          refine g_sub (lv2 := [(0, .ref (adr Y 43)), (1, .int x1), (2, .int x2), (3, .int vq17), (4, .int vq29), (5, .int vq40)]) [1, 2, 3, 4, 5, 0] rfl ?_
          cases h59
          exact KJ56 okB0
        refine g_if_eq hX 85 d_M_spansFrom_64 (by decide) h46 (fun h48 => ?_) (fun h49 => ?_)
        · cases h48
          exact Kbq45f (by decide)
        · refine g_iload_n hX d_M_spansFrom_67 4 rfl ?_
          refine g_iload_n hX d_M_spansFrom_68 3 rfl ?_
          refine g_callS hX [.int vq17, .int x2] [] mv_M_81 (c_M_isIn X.2.1 Y vq17 x2 σ30 _ rfl) (by decide) rfl rfl (Nat.le_of_ble_eq_true rfl) d_M_spansFrom_69 (fun h50 => ?_)
          show Gd X Y 1 σ30 [(5, .int vq40), (0, .ref (adr Y 43)), (1, .int x1), (2, .int x2), (3, .int vq17), (4, .int vq29)] 72 [.int (M_isIn vq17 x2)]
          refine g_if_ne hX 85 d_M_spansFrom_72 (by decide) h49 (fun h51 => ?_) (fun h52 => ?_)
          · cases h51
            exact Kbq45f (by decide)
          · refine g_iload hX d_M_spansFrom_75 5 rfl ?_
            refine g_iload_n hX d_M_spansFrom_77 3 rfl ?_
            refine g_icmp_eq hX 85 d_M_spansFrom_78 (by decide) h52 (fun h53 => ?_) (fun h54 => ?_)
            · cases h53
              exact Kbq45f (by decide)
            · cases h54
              exact Kbq45t rfl
  refine g_sub (lv2 := [(0, .ref (adr Y 43)), (1, .int x1), (2, .int x2), (3, .int 0)]) [1, 2, 3, 0] rfl ?_
  refine g_loop (fun s => M_spansFrom_b1 s.1 s.2) (fun s => Gd X Y 1 s.2 [(0, .ref (adr Y 43)), (1, .int x1), (2, .int x2), (3, .int s.1)] 2 []) σ3 ?_ fuel (0, σ) h7
  intro s y6 h6 h4 h5
  obtain ⟨vq1, σ2⟩ := s
  have h6 : M_spansFrom_b1 vq1 σ2 = some y6 := h6
  unfold M_spansFrom_b1 at h6
  show Gd X Y 1 σ2 [(0, .ref (adr Y 43)), (1, .int x1), (2, .int x2), (3, .int vq1)] 2 []
  refine g_iload_n hX d_M_spansFrom_2 3 rfl ?_
  refine g_aload_n hX d_M_spansFrom_3 0 rfl ?_
  refine g_callV hX [] [.int vq1] mv_M_110 (c_M_all X.2.1 Y σ2 _ rfl) (by decide) iw_43 sh_43 rfl rfl rfl (Nat.le_of_ble_eq_true rfl) d_M_spansFrom_4 (fun h10 => ?_)
  show Gd X Y 1 σ2 [(0, .ref (adr Y 43)), (1, .int x1), (2, .int x2), (3, .int vq1)] 7 [.int (M_all σ2), .int vq1]
  refine g_icmp_gt hX 23 d_M_spansFrom_7 (by decide) h6 (fun h11 => ?_) (fun h12 => ?_)
  · refine g_sub (lv2 := [(0, .ref (adr Y 43)), (1, .int x1), (2, .int x2)]) [0, 1, 2] rfl ?_
    cases h11
    have h9 := h5 σ2 rfl
    cases h9
    exact KX8
  · refine g_aload_n hX d_M_spansFrom_10 0 rfl ?_
    refine g_getR hX iw_43 sh_43 rfl fl_M_59 d_M_spansFrom_11 ?_
    refine g_iload_n hX d_M_spansFrom_14 3 rfl ?_
    refine g_iconst hX 0 d_M_spansFrom_15 (by decide) ?_
    refine g_iastore hX iw_59 sh_59 d_M_spansFrom_16 h12 (fun σ13 h14 => ?_)
    refine g_iinc hX (fun vq15 => [(3, .int vq15), (0, .ref (adr Y 43)), (1, .int x1), (2, .int x2)]) d_M_spansFrom_17 3 rfl rfl (by decide) (fun _ => rfl) h14 (fun vq15 h16 => ?_)
    refine g_goto hX 2 d_M_spansFrom_20 (by decide) ?_
    refine g_sub (lv2 := [(0, .ref (adr Y 43)), (1, .int x1), (2, .int x2), (3, .int vq15)]) [1, 2, 3, 0] rfl ?_
    cases h16
    exact h4 (vq15, σ13) rfl
noncomputable def M_apartOf (x1 : Int32) (x2 : Int32) (x3 : Int32) (σ : Mem) : Option (Int32 × Mem) := (M_findsGo σ).bind (fun σ1 => lt (mput σ1 43 20 (-1)) (fun σ5 => lt (mput σ5 43 21 (-1)) (fun σ7 => (M_spansFrom x1 x2 σ7).bind (fun σ9 => (M_spansFrom x2 x1 σ9).bind (fun σ13 => lt (if x3 = 0 then (σ13 43 20) else (σ13 43 21) : Int32) (fun vq22 => some (vq22, σ13)))))))
set_option maxHeartbeats 4000000 in
set_option maxRecDepth 100000 in
theorem c_M_apartOf (l : Launch) (Y : Wx) (x1 : Int32) (x2 : Int32) (x3 : Int32)  (σ : Mem) (o : Int32 × Mem) (hf : M_apartOf x1 x2 x3 σ = some o) : Ct l Y 1 y_M_apartOf b_M_apartOf 4 (some .int) 5 [.ref (adr Y 43), .int x1, .int x2, .int x3] σ (some (.int o.1)) o.2 := by
  unfold M_apartOf at hf
  refine ct_of (by decide) (Nat.le_of_ble_eq_true rfl) rfl (fun X hXl hX hR => ?_)
  subst hXl
  have hX : Fx X Y 1 b_M_apartOf 4 R_M 5 := hX
  refine g_aload_n hX d_M_apartOf_0 0 rfl ?_
  obtain ⟨σ1, h2, h3⟩ := obind hf
  refine g_callV hX [] [] mv_M_130 (c_M_findsGo X.2.1 Y σ _ h2) (by decide) iw_43 sh_43 rfl rfl rfl (Nat.le_of_ble_eq_true rfl) d_M_apartOf_1 (fun h4 => ?_)
  show Gd X Y 1 σ1 [(0, .ref (adr Y 43)), (1, .int x1), (2, .int x2), (3, .int x3)] 4 []
  refine g_aload_n hX d_M_apartOf_4 0 rfl ?_
  refine g_iconst hX (-1) d_M_apartOf_5 (by decide) ?_
  refine g_putI hX iw_43 sh_43 rfl fl_M_205 d_M_apartOf_6 h3 (fun σ5 h6 => ?_)
  refine g_aload_n hX d_M_apartOf_9 0 rfl ?_
  refine g_iconst hX (-1) d_M_apartOf_10 (by decide) ?_
  refine g_putI hX iw_43 sh_43 rfl fl_M_208 d_M_apartOf_11 h6 (fun σ7 h8 => ?_)
  refine g_aload_n hX d_M_apartOf_14 0 rfl ?_
  refine g_iload_n hX d_M_apartOf_15 1 rfl ?_
  refine g_iload_n hX d_M_apartOf_16 2 rfl ?_
  obtain ⟨σ9, h10, h11⟩ := obind h8
  refine g_callV hX [.int x1, .int x2] [] mv_M_211 (c_M_spansFrom X.2.1 Y x1 x2 σ7 _ h10) (by decide) iw_43 sh_43 rfl rfl rfl (Nat.le_of_ble_eq_true rfl) d_M_apartOf_17 (fun h12 => ?_)
  show Gd X Y 1 σ9 [(0, .ref (adr Y 43)), (1, .int x1), (2, .int x2), (3, .int x3)] 20 []
  refine g_aload_n hX d_M_apartOf_20 0 rfl ?_
  refine g_iload_n hX d_M_apartOf_21 2 rfl ?_
  refine g_iload_n hX d_M_apartOf_22 1 rfl ?_
  obtain ⟨σ13, h14, h15⟩ := obind h11
  refine g_callV hX [.int x2, .int x1] [] mv_M_211 (c_M_spansFrom X.2.1 Y x2 x1 σ9 _ h14) (by decide) iw_43 sh_43 rfl rfl rfl (Nat.le_of_ble_eq_true rfl) d_M_apartOf_23 (fun h16 => ?_)
  show Gd X Y 1 σ13 [(0, .ref (adr Y 43)), (1, .int x1), (2, .int x2), (3, .int x3)] 26 []
  refine g_iload_n hX d_M_apartOf_26 3 rfl ?_
  obtain ⟨vq22, h17, h18⟩ := ltex h15
  have KJ18 : Gd X Y 1 σ13 [] 41 [.int vq22] := by
    cases h18
    exact g_ireturn hX hR d_M_apartOf_41
  refine g_if_ne hX 37 d_M_apartOf_27 (by decide) h17 (fun h20 => ?_) (fun h21 => ?_)
  · refine g_aload_n hX d_M_apartOf_37 0 rfl ?_
    refine g_getI hX iw_43 sh_43 rfl fl_M_208.f d_M_apartOf_38 ?_
    refine g_sub (lv2 := []) [] rfl ?_
    cases h20
    exact KJ18
  · refine g_aload_n hX d_M_apartOf_30 0 rfl ?_
    refine g_getI hX iw_43 sh_43 rfl fl_M_205.f d_M_apartOf_31 ?_
    refine g_goto hX 41 d_M_apartOf_34 (by decide) ?_
    refine g_sub (lv2 := []) [] rfl ?_
    cases h21
    exact KJ18
noncomputable def M_isThing (x1 : Int32) (σ : Mem) : Int32 := (M_in x1 0 ((σ 43 0) - 1))
set_option maxHeartbeats 4000000 in
set_option maxRecDepth 100000 in
theorem c_M_isThing (l : Launch) (Y : Wx) (x1 : Int32)  (σ : Mem) (o : Int32) (hf : M_isThing x1 σ = o) : Ct l Y 1 y_M_isThing b_M_isThing 2 (some .boolean) 1 [.ref (adr Y 43), .int x1] σ (some (.int o)) σ := by
  unfold M_isThing at hf
  refine ct_of (by decide) (Nat.le_of_ble_eq_true rfl) rfl (fun X hXl hX hR => ?_)
  subst hXl
  have hX : Fx X Y 1 b_M_isThing 2 R_M 1 := hX
  refine g_iload_n hX d_M_isThing_0 1 rfl ?_
  refine g_iconst hX 0 d_M_isThing_1 (by decide) ?_
  refine g_aload_n hX d_M_isThing_2 0 rfl ?_
  refine g_getI hX iw_43 sh_43 rfl fl_M_7.f d_M_isThing_3 ?_
  refine g_iconst hX 1 d_M_isThing_6 (by decide) ?_
  refine g_isub hX d_M_isThing_7 ?_
  refine g_callS hX [.int x1, .int 0, .int ((σ 43 0) - 1)] [] mv_M_85 (c_M_in X.2.1 Y x1 0 ((σ 43 0) - 1) σ _ rfl) (by decide) rfl rfl (Nat.le_of_ble_eq_true rfl) d_M_isThing_8 (fun h1 => ?_)
  show Gd X Y 1 σ [(0, .ref (adr Y 43)), (1, .int x1)] 11 [.int (M_in x1 0 ((σ 43 0) - 1))]
  cases hf
  exact g_zreturn hX hR h1 d_M_isThing_11
noncomputable def M_apart (x1 : Int32) (x2 : Int32) (x3 : Int32) (σ : Mem) : Option (Int32 × Mem) := lt (if (M_isThing x1 σ) = 0 then false else if (M_isThing x2 σ) = 0 then false else if x1 = x2 then false else if (M_in x3 0 1) = 0 then false else true : Bool) (fun bq2 => ((if bq2 = true then (M_apartOf x1 x2 x3 σ).bind (fun q => lt q.1 (fun vq20 => lt q.2 (fun σ21 => some (vq20, σ21)))) else some ((-2), σ) : Option (Int32 × Mem))).bind (fun q => lt q.1 (fun vq25 => lt q.2 (fun σ26 => some (vq25, σ26)))))
set_option maxHeartbeats 4000000 in
set_option maxRecDepth 100000 in
theorem c_M_apart (l : Launch) (Y : Wx) (x1 : Int32) (x2 : Int32) (x3 : Int32)  (σ : Mem) (o : Int32 × Mem) (hf : M_apart x1 x2 x3 σ = some o) : Ct l Y 1 y_M_apart b_M_apart 4 (some .int) 6 [.ref (adr Y 43), .int x1, .int x2, .int x3] σ (some (.int o.1)) o.2 := by
  unfold M_apart at hf
  refine ct_of (by decide) (Nat.le_of_ble_eq_true rfl) rfl (fun X hXl hX hR => ?_)
  subst hXl
  have hX : Fx X Y 1 b_M_apart 4 R_M 6 := hX
  refine g_aload_n hX d_M_apart_0 0 rfl ?_
  refine g_iload_n hX d_M_apart_1 1 rfl ?_
  refine g_callV hX [.int x1] [] mv_M_214 (c_M_isThing X.2.1 Y x1 σ _ rfl) (by decide) iw_43 sh_43 rfl rfl rfl (Nat.le_of_ble_eq_true rfl) d_M_apart_2 (fun h1 => ?_)
  show Gd X Y 1 σ [(0, .ref (adr Y 43)), (1, .int x1), (2, .int x2), (3, .int x3)] 5 [.int (M_isThing x1 σ)]
  obtain ⟨bq2, h3, h4⟩ := ltex hf
  obtain ⟨⟨vq25, σ26⟩, h15, h16⟩ := obind h4
  have h16 := lt2 h16
  have KJ16 : Gd X Y 1 σ26 [] 42 [.int vq25] := by
    cases h16
    exact g_ireturn hX hR d_M_apart_42
  have Kbq2t : bq2 = true → Gd X Y 1 σ [(0, .ref (adr Y 43)), (1, .int x1), (2, .int x2), (3, .int x3)] 30 [] := by
    intro h27
    have h18 := (if_pos h27).symm.trans h15
    refine g_aload_n hX d_M_apart_30 0 rfl ?_
    refine g_iload_n hX d_M_apart_31 1 rfl ?_
    refine g_iload_n hX d_M_apart_32 2 rfl ?_
    refine g_iload_n hX d_M_apart_33 3 rfl ?_
    obtain ⟨⟨vq20, σ21⟩, h22, h23⟩ := obind h18
    have h23 := lt2 h23
    refine g_callV hX [.int x1, .int x2, .int x3] [] mv_M_217 (c_M_apartOf X.2.1 Y x1 x2 x3 σ _ h22) (by decide) iw_43 sh_43 rfl rfl rfl (Nat.le_of_ble_eq_true rfl) d_M_apart_34 (fun h24 => ?_)
    show Gd X Y 1 σ21 [(0, .ref (adr Y 43)), (1, .int x1), (2, .int x2), (3, .int x3)] 37 [.int vq20]
    refine g_goto hX 42 d_M_apart_37 (by decide) ?_
    refine g_sub (lv2 := []) [] rfl ?_
    cases h23
    exact KJ16
  have Kbq2f : ¬ bq2 = true → Gd X Y 1 σ [(0, .ref (adr Y 43)), (1, .int x1), (2, .int x2), (3, .int x3)] 40 [] := by
    intro h27
    have h19 := (if_neg h27).symm.trans h15
    refine g_bipush hX (-2) d_M_apart_40 (by decide) ?_
    refine g_sub (lv2 := []) [] rfl ?_
    cases h19
    exact KJ16
  refine g_if_eq hX 40 d_M_apart_5 (by decide) h3 (fun h5 => ?_) (fun h6 => ?_)
  · cases h5
    exact Kbq2f (by decide)
  · refine g_aload_n hX d_M_apart_8 0 rfl ?_
    refine g_iload_n hX d_M_apart_9 2 rfl ?_
    refine g_callV hX [.int x2] [] mv_M_214 (c_M_isThing X.2.1 Y x2 σ _ rfl) (by decide) iw_43 sh_43 rfl rfl rfl (Nat.le_of_ble_eq_true rfl) d_M_apart_10 (fun h7 => ?_)
    show Gd X Y 1 σ [(0, .ref (adr Y 43)), (1, .int x1), (2, .int x2), (3, .int x3)] 13 [.int (M_isThing x2 σ)]
    refine g_if_eq hX 40 d_M_apart_13 (by decide) h6 (fun h8 => ?_) (fun h9 => ?_)
    · cases h8
      exact Kbq2f (by decide)
    · refine g_iload_n hX d_M_apart_16 1 rfl ?_
      refine g_iload_n hX d_M_apart_17 2 rfl ?_
      refine g_icmp_eq hX 40 d_M_apart_18 (by decide) h9 (fun h10 => ?_) (fun h11 => ?_)
      · cases h10
        exact Kbq2f (by decide)
      · refine g_iload_n hX d_M_apart_21 3 rfl ?_
        refine g_iconst hX 0 d_M_apart_22 (by decide) ?_
        refine g_iconst hX 1 d_M_apart_23 (by decide) ?_
        refine g_callS hX [.int x3, .int 0, .int 1] [] mv_M_85 (c_M_in X.2.1 Y x3 0 1 σ _ rfl) (by decide) rfl rfl (Nat.le_of_ble_eq_true rfl) d_M_apart_24 (fun h12 => ?_)
        show Gd X Y 1 σ [(0, .ref (adr Y 43)), (1, .int x1), (2, .int x2), (3, .int x3)] 27 [.int (M_in x3 0 1)]
        refine g_if_eq hX 40 d_M_apart_27 (by decide) h11 (fun h13 => ?_) (fun h14 => ?_)
        · cases h13
          exact Kbq2f (by decide)
        · cases h14
          exact Kbq2t rfl
noncomputable def M_spareOf_b1 (vq1 : Int32) (vq6 : Int32) (vq11 : Int32) (vq12 : Int32) (σ13 : Mem) : Option ((Int32 × Int32 × Mem) ⊕ (Int32 × Mem)) := if (σ13 43 1) ≤ vq12 then some (.inr (vq11, σ13)) else ((if (M_isIn vq1 vq12) = 0 then some (false, σ13) else (M_rowsBy (vq1 &&& ((1 <<< (vq12 &&& 31)) ^^^ (-1))) 0 σ13).bind (fun q => lt q.1 (fun vq31 => lt q.2 (fun σ32 => if vq31 = vq6 then some (true, σ32) else some (false, σ32)))) : Option (Bool × Mem))).bind (fun q => lt q.1 (fun bq25 => lt q.2 (fun σ26 => lt (if bq25 = true then (1 <<< (vq12 &&& 31)) else 0 : Int32) (fun vq43 => lt (vq11 ||| vq43) (fun vq45 => lt (vq12 + 1) (fun vq47 => some (.inl (vq45, vq47, σ26))))))))
noncomputable def M_spareOf  (σ : Mem) : Option (Int32 × Mem) := (M_takenNow σ).bind (fun q => lt q.1 (fun vq1 => lt q.2 (fun σ2 => (M_rowsBy vq1 0 σ2).bind (fun q => lt q.1 (fun vq6 => lt q.2 (fun σ7 => (lp (fun s => M_spareOf_b1 vq1 vq6 s.1 s.2.1 s.2.2) fuel (0, 0, σ7)).bind (fun q => lt q.1 (fun vq14 => lt q.2 (fun σ15 => some (vq14, σ15))))))))))
set_option maxHeartbeats 4000000 in
set_option maxRecDepth 100000 in
theorem c_M_spareOf (l : Launch) (Y : Wx)   (σ : Mem) (o : Int32 × Mem) (hf : M_spareOf σ = some o) : Ct l Y 1 y_M_spareOf b_M_spareOf 5 (some .int) 4 [.ref (adr Y 43)] σ (some (.int o.1)) o.2 := by
  unfold M_spareOf at hf
  refine ct_of (by decide) (Nat.le_of_ble_eq_true rfl) rfl (fun X hXl hX hR => ?_)
  subst hXl
  have hX : Fx X Y 1 b_M_spareOf 5 R_M 4 := hX
  refine g_aload_n hX d_M_spareOf_0 0 rfl ?_
  obtain ⟨⟨vq1, σ2⟩, h3, h4⟩ := obind hf
  have h4 := lt2 h4
  refine g_callV hX [] [] mv_M_96 (c_M_takenNow X.2.1 Y σ _ h3) (by decide) iw_43 sh_43 rfl rfl rfl (Nat.le_of_ble_eq_true rfl) d_M_spareOf_1 (fun h5 => ?_)
  show Gd X Y 1 σ2 [(0, .ref (adr Y 43))] 4 [.int vq1]
  refine g_istore_nV hX [(1, .int vq1), (0, .ref (adr Y 43))] d_M_spareOf_4 (by decide) rfl ?_
  refine g_aload_n hX d_M_spareOf_5 1 rfl ?_
  refine g_iload_n hX d_M_spareOf_6 0 rfl ?_
  refine g_iconst hX 0 d_M_spareOf_7 (by decide) ?_
  obtain ⟨⟨vq6, σ7⟩, h8, h9⟩ := obind h4
  have h9 := lt2 h9
  refine g_callV hX [.int vq1, .int 0] [] mv_M_117 (c_M_rowsBy X.2.1 Y vq1 0 σ2 _ h8) (by decide) iw_43 sh_43 rfl rfl rfl (Nat.le_of_ble_eq_true rfl) d_M_spareOf_8 (fun h10 => ?_)
  show Gd X Y 1 σ7 [(1, .int vq1), (0, .ref (adr Y 43))] 11 [.int vq6]
  refine g_istore_nV hX [(2, .int vq6), (1, .int vq1), (0, .ref (adr Y 43))] d_M_spareOf_11 (by decide) rfl ?_
  refine g_iconst hX 0 d_M_spareOf_12 (by decide) ?_
  refine g_istore_nV hX [(3, .int 0), (2, .int vq6), (1, .int vq1), (0, .ref (adr Y 43))] d_M_spareOf_13 (by decide) rfl ?_
  refine g_iconst hX 0 d_M_spareOf_14 (by decide) ?_
  refine g_istoreV hX [(4, .int 0), (3, .int 0), (2, .int vq6), (1, .int vq1), (0, .ref (adr Y 43))] d_M_spareOf_15 (by decide) rfl ?_
  obtain ⟨⟨vq14, σ15⟩, h19, h20⟩ := obind h9
  have h20 := lt2 h20
  have KX20 : Gd X Y 1 σ15 [(3, .int vq14)] 69 [] := by
    refine g_iload_n hX d_M_spareOf_69 0 rfl ?_
    cases h20
    exact g_ireturn hX hR d_M_spareOf_70
  refine g_sub (lv2 := [(0, .ref (adr Y 43)), (1, .int vq1), (2, .int vq6), (3, .int 0), (4, .int 0)]) [4, 3, 2, 1, 0] rfl ?_
  refine g_loop (fun s => M_spareOf_b1 vq1 vq6 s.1 s.2.1 s.2.2) (fun s => Gd X Y 1 s.2.2 [(0, .ref (adr Y 43)), (1, .int vq1), (2, .int vq6), (3, .int s.1), (4, .int s.2.1)] 17 []) (vq14, σ15) ?_ fuel (0, 0, σ7) h19
  intro s y18 h18 h16 h17
  obtain ⟨vq11, vq12, σ13⟩ := s
  have h18 : M_spareOf_b1 vq1 vq6 vq11 vq12 σ13 = some y18 := h18
  unfold M_spareOf_b1 at h18
  show Gd X Y 1 σ13 [(0, .ref (adr Y 43)), (1, .int vq1), (2, .int vq6), (3, .int vq11), (4, .int vq12)] 17 []
  refine g_iload hX d_M_spareOf_17 4 rfl ?_
  refine g_aload_n hX d_M_spareOf_19 0 rfl ?_
  refine g_getI hX iw_43 sh_43 rfl fl_M_93.f d_M_spareOf_20 ?_
  refine g_icmp_ge hX 69 d_M_spareOf_23 (by decide) h18 (fun h22 => ?_) (fun h23 => ?_)
  · refine g_sub (lv2 := [(3, .int vq11)]) [3] rfl ?_
    cases h22
    have h21 := h17 (vq11, σ13) rfl
    cases h21
    exact KX20
  · refine g_iload_n hX d_M_spareOf_26 3 rfl ?_
    refine g_iload_n hX d_M_spareOf_27 1 rfl ?_
    refine g_iload hX d_M_spareOf_28 4 rfl ?_
    refine g_callS hX [.int vq1, .int vq12] [.int vq11] mv_M_81 (c_M_isIn X.2.1 Y vq1 vq12 σ13 _ rfl) (by decide) rfl rfl (Nat.le_of_ble_eq_true rfl) d_M_spareOf_30 (fun h24 => ?_)
    show Gd X Y 1 σ13 [(0, .ref (adr Y 43)), (1, .int vq1), (2, .int vq6), (3, .int vq11), (4, .int vq12)] 33 [.int (M_isIn vq1 vq12), .int vq11]
    obtain ⟨⟨bq25, σ26⟩, h27, h28⟩ := obind h23
    have h28 := lt2 h28
    obtain ⟨vq43, h38, h39⟩ := ltex h28
    have KJ39 : Gd X Y 1 σ26 [(0, .ref (adr Y 43)), (1, .int vq1), (2, .int vq6), (4, .int vq12)] 61 [.int vq43, .int vq11] := by
      refine g_ior hX d_M_spareOf_61 ?_
      refine g_istore_n hX (fun vq45 => [(3, .int vq45), (0, .ref (adr Y 43)), (1, .int vq1), (2, .int vq6), (4, .int vq12)]) d_M_spareOf_62 (by decide) (fun _ => rfl) h39 (fun vq45 h46 => ?_)
      refine g_iinc hX (fun vq47 => [(4, .int vq47), (3, .int vq45), (0, .ref (adr Y 43)), (1, .int vq1), (2, .int vq6)]) d_M_spareOf_63 4 rfl rfl (by decide) (fun _ => rfl) h46 (fun vq47 h48 => ?_)
      refine g_goto hX 17 d_M_spareOf_66 (by decide) ?_
      refine g_sub (lv2 := [(0, .ref (adr Y 43)), (1, .int vq1), (2, .int vq6), (3, .int vq45), (4, .int vq47)]) [2, 3, 4, 1, 0] rfl ?_
      cases h48
      exact h16 (vq45, vq47, σ26) rfl
    have Kbq25t : bq25 = true → Gd X Y 1 σ26 [(0, .ref (adr Y 43)), (1, .int vq1), (2, .int vq6), (3, .int vq11), (4, .int vq12)] 53 [.int vq11] := by
      intro h44
      have h41 := (if_pos h44).symm.trans h38
      refine g_iconst hX 1 d_M_spareOf_53 (by decide) ?_
      refine g_iload hX d_M_spareOf_54 4 rfl ?_
      refine g_ishl hX d_M_spareOf_56 ?_
      refine g_goto hX 61 d_M_spareOf_57 (by decide) ?_
      refine g_sub (lv2 := [(0, .ref (adr Y 43)), (1, .int vq1), (2, .int vq6), (4, .int vq12)]) [0, 1, 2, 4] rfl ?_
      cases h41
      exact KJ39
    have Kbq25f : ¬ bq25 = true → Gd X Y 1 σ26 [(0, .ref (adr Y 43)), (1, .int vq1), (2, .int vq6), (3, .int vq11), (4, .int vq12)] 60 [.int vq11] := by
      intro h44
      have h42 := (if_neg h44).symm.trans h38
      refine g_iconst hX 0 d_M_spareOf_60 (by decide) ?_
      refine g_sub (lv2 := [(0, .ref (adr Y 43)), (1, .int vq1), (2, .int vq6), (4, .int vq12)]) [0, 1, 2, 4] rfl ?_
      cases h42
      exact KJ39
    refine g_if_eq hX 60 d_M_spareOf_33 (by decide) h27 (fun h29 => ?_) (fun h30 => ?_)
    · cases h29
      exact Kbq25f (by decide)
    · refine g_aload_n hX d_M_spareOf_36 0 rfl ?_
      refine g_iload_n hX d_M_spareOf_37 1 rfl ?_
      refine g_iconst hX 1 d_M_spareOf_38 (by decide) ?_
      refine g_iload hX d_M_spareOf_39 4 rfl ?_
      refine g_ishl hX d_M_spareOf_41 ?_
      refine g_iconst hX (-1) d_M_spareOf_42 (by decide) ?_
      refine g_ixor hX d_M_spareOf_43 ?_
      refine g_iand hX d_M_spareOf_44 ?_
      refine g_iconst hX 0 d_M_spareOf_45 (by decide) ?_
      obtain ⟨⟨vq31, σ32⟩, h33, h34⟩ := obind h30
      have h34 := lt2 h34
      refine g_callV hX [.int (vq1 &&& ((1 <<< (vq12 &&& 31)) ^^^ (-1))), .int 0] [.int vq11] mv_M_117 (c_M_rowsBy X.2.1 Y (vq1 &&& ((1 <<< (vq12 &&& 31)) ^^^ (-1))) 0 σ13 _ h33) (by decide) iw_43 sh_43 rfl rfl rfl (Nat.le_of_ble_eq_true rfl) d_M_spareOf_46 (fun h35 => ?_)
      show Gd X Y 1 σ32 [(0, .ref (adr Y 43)), (1, .int vq1), (2, .int vq6), (3, .int vq11), (4, .int vq12)] 49 [.int vq31, .int vq11]
      refine g_iload_n hX d_M_spareOf_49 2 rfl ?_
      refine g_icmp_ne hX 60 d_M_spareOf_50 (by decide) h34 (fun h36 => ?_) (fun h37 => ?_)
      · cases h36
        exact Kbq25f (by decide)
      · cases h37
        exact Kbq25t rfl
noncomputable def M_spare  (σ : Mem) : Option (Int32 × Mem) := (M_spareOf σ).bind (fun q => lt q.1 (fun vq1 => lt q.2 (fun σ2 => some (vq1, σ2))))
set_option maxHeartbeats 4000000 in
set_option maxRecDepth 100000 in
theorem c_M_spare (l : Launch) (Y : Wx)   (σ : Mem) (o : Int32 × Mem) (hf : M_spare σ = some o) : Ct l Y 1 y_M_spare b_M_spare 1 (some .int) 5 [.ref (adr Y 43)] σ (some (.int o.1)) o.2 := by
  unfold M_spare at hf
  refine ct_of (by decide) (Nat.le_of_ble_eq_true rfl) rfl (fun X hXl hX hR => ?_)
  subst hXl
  have hX : Fx X Y 1 b_M_spare 1 R_M 5 := hX
  refine g_aload_n hX d_M_spare_0 0 rfl ?_
  obtain ⟨⟨vq1, σ2⟩, h3, h4⟩ := obind hf
  have h4 := lt2 h4
  refine g_callV hX [] [] mv_M_220 (c_M_spareOf X.2.1 Y σ _ h3) (by decide) iw_43 sh_43 rfl rfl rfl (Nat.le_of_ble_eq_true rfl) d_M_spare_1 (fun h5 => ?_)
  show Gd X Y 1 σ2 [(0, .ref (adr Y 43))] 4 [.int vq1]
  cases h4
  exact g_ireturn hX hR d_M_spare_4
noncomputable def M_type (x1 : Int32) (σ : Mem) : Option (Int32 × Mem) := if (M_in x1 0 255) = 0 then some ((-2), σ) else if (σ 43 22) = 8 then some ((-4), σ) else (wr σ 60 (σ 43 22) x1).bind (fun σ6 => lt (mput σ6 43 22 ((σ6 43 22) + 1)) (fun σ8 => some ((σ8 43 22), σ8)))
set_option maxHeartbeats 4000000 in
set_option maxRecDepth 100000 in
theorem c_M_type (l : Launch) (Y : Wx) (x1 : Int32)  (σ : Mem) (o : Int32 × Mem) (hf : M_type x1 σ = some o) : Ct l Y 1 y_M_type b_M_type 2 (some .int) 1 [.ref (adr Y 43), .int x1] σ (some (.int o.1)) o.2 := by
  unfold M_type at hf
  refine ct_of (by decide) (Nat.le_of_ble_eq_true rfl) rfl (fun X hXl hX hR => ?_)
  subst hXl
  have hX : Fx X Y 1 b_M_type 2 R_M 1 := hX
  refine g_iload_n hX d_M_type_0 1 rfl ?_
  refine g_iconst hX 0 d_M_type_1 (by decide) ?_
  refine g_sipush hX 255 d_M_type_2 (by decide) ?_
  refine g_callS hX [.int x1, .int 0, .int 255] [] mv_M_85 (c_M_in X.2.1 Y x1 0 255 σ _ rfl) (by decide) rfl rfl (Nat.le_of_ble_eq_true rfl) d_M_type_5 (fun h1 => ?_)
  show Gd X Y 1 σ [(0, .ref (adr Y 43)), (1, .int x1)] 8 [.int (M_in x1 0 255)]
  refine g_if_ne hX 14 d_M_type_8 (by decide) hf (fun h2 => ?_) (fun h3 => ?_)
  · refine g_aload_n hX d_M_type_14 0 rfl ?_
    refine g_getI hX iw_43 sh_43 rfl fl_M_223.f d_M_type_15 ?_
    refine g_bipush hX 8 d_M_type_18 (by decide) ?_
    refine g_icmp_ne hX 26 d_M_type_20 (by decide) h2 (fun h4 => ?_) (fun h5 => ?_)
    · refine g_aload_n hX d_M_type_26 0 rfl ?_
      refine g_getR hX iw_43 sh_43 rfl fl_M_62 d_M_type_27 ?_
      refine g_aload_n hX d_M_type_30 0 rfl ?_
      refine g_getI hX iw_43 sh_43 rfl fl_M_223.f d_M_type_31 ?_
      refine g_iload_n hX d_M_type_34 1 rfl ?_
      refine g_iastore hX iw_60 sh_60 d_M_type_35 h4 (fun σ6 h7 => ?_)
      refine g_aload_n hX d_M_type_36 0 rfl ?_
      refine g_dup hX d_M_type_37 rfl ?_
      refine g_getI hX iw_43 sh_43 rfl fl_M_223.f d_M_type_38 ?_
      refine g_iconst hX 1 d_M_type_41 (by decide) ?_
      refine g_iadd hX d_M_type_42 ?_
      refine g_putI hX iw_43 sh_43 rfl fl_M_223 d_M_type_43 h7 (fun σ8 h9 => ?_)
      refine g_aload_n hX d_M_type_46 0 rfl ?_
      refine g_getI hX iw_43 sh_43 rfl fl_M_223.f d_M_type_47 ?_
      cases h9
      exact g_ireturn hX hR d_M_type_50
    · refine g_bipush hX (-4) d_M_type_23 (by decide) ?_
      cases h5
      exact g_ireturn hX hR d_M_type_25
  · refine g_bipush hX (-2) d_M_type_11 (by decide) ?_
    cases h3
    exact g_ireturn hX hR d_M_type_13
noncomputable def M_wipe  (σ : Mem) : Int32 × Mem := lt (σ 43 22) (fun vq1 => lt (mput σ 43 22 0) (fun σ3 => (vq1, σ3)))
set_option maxHeartbeats 4000000 in
set_option maxRecDepth 100000 in
theorem c_M_wipe (l : Launch) (Y : Wx)   (σ : Mem) (o : Int32 × Mem) (hf : M_wipe σ = o) : Ct l Y 1 y_M_wipe b_M_wipe 2 (some .int) 0 [.ref (adr Y 43)] σ (some (.int o.1)) o.2 := by
  unfold M_wipe at hf
  refine ct_of (by decide) (Nat.le_of_ble_eq_true rfl) rfl (fun X hXl hX hR => ?_)
  subst hXl
  have hX : Fx X Y 1 b_M_wipe 2 R_M 0 := hX
  refine g_aload_n hX d_M_wipe_0 0 rfl ?_
  refine g_getI hX iw_43 sh_43 rfl fl_M_223.f d_M_wipe_1 ?_
  refine g_istore_n hX (fun vq1 => [(1, .int vq1), (0, .ref (adr Y 43))]) d_M_wipe_4 (by decide) (fun _ => rfl) hf (fun vq1 h2 => ?_)
  refine g_aload_n hX d_M_wipe_5 1 rfl ?_
  refine g_iconst hX 0 d_M_wipe_6 (by decide) ?_
  refine g_putI hX iw_43 sh_43 rfl fl_M_223 d_M_wipe_7 h2 (fun σ3 h4 => ?_)
  refine g_iload_n hX d_M_wipe_10 0 rfl ?_
  cases h4
  exact g_ireturn hX hR d_M_wipe_11
noncomputable def M_undo  (σ : Mem) : Int32 × Mem := if (σ 43 22) = 0 then ((-3), σ) else lt (mput σ 43 22 ((σ 43 22) - 1)) (fun σ3 => ((σ3 43 22), σ3))
set_option maxHeartbeats 4000000 in
set_option maxRecDepth 100000 in
theorem c_M_undo (l : Launch) (Y : Wx)   (σ : Mem) (o : Int32 × Mem) (hf : M_undo σ = o) : Ct l Y 1 y_M_undo b_M_undo 1 (some .int) 0 [.ref (adr Y 43)] σ (some (.int o.1)) o.2 := by
  unfold M_undo at hf
  refine ct_of (by decide) (Nat.le_of_ble_eq_true rfl) rfl (fun X hXl hX hR => ?_)
  subst hXl
  have hX : Fx X Y 1 b_M_undo 1 R_M 0 := hX
  refine g_aload_n hX d_M_undo_0 0 rfl ?_
  refine g_getI hX iw_43 sh_43 rfl fl_M_223.f d_M_undo_1 ?_
  refine g_if_ne hX 10 d_M_undo_4 (by decide) hf (fun h1 => ?_) (fun h2 => ?_)
  · refine g_aload_n hX d_M_undo_10 0 rfl ?_
    refine g_dup hX d_M_undo_11 rfl ?_
    refine g_getI hX iw_43 sh_43 rfl fl_M_223.f d_M_undo_12 ?_
    refine g_iconst hX 1 d_M_undo_15 (by decide) ?_
    refine g_isub hX d_M_undo_16 ?_
    refine g_putI hX iw_43 sh_43 rfl fl_M_223 d_M_undo_17 h1 (fun σ3 h4 => ?_)
    refine g_aload_n hX d_M_undo_20 0 rfl ?_
    refine g_getI hX iw_43 sh_43 rfl fl_M_223.f d_M_undo_21 ?_
    cases h4
    exact g_ireturn hX hR d_M_undo_24
  · refine g_bipush hX (-3) d_M_undo_7 (by decide) ?_
    cases h2
    exact g_ireturn hX hR d_M_undo_9
noncomputable def M_faultOf_b1 (σ : Mem) (vq1 : Int32) (vq2 : Int32) : Option ((Int32 × Int32) ⊕ ((Unit) ⊕ (Int32))) := if (σ 43 22) ≤ vq2 then some (.inr (.inl ())) else (rd σ 60 vq2).bind (fun vq11 => lt (vq11 - 97) (fun vq13 => lt (if (M_isThing vq13 σ) = 0 then true else if (M_isIn vq1 vq13) = 0 then false else true : Bool) (fun bq16 => if bq16 = true then some (.inr (.inr vq2)) else lt (vq1 ||| (1 <<< (vq13 &&& 31))) (fun vq26 => lt (vq2 + 1) (fun vq28 => some (.inl (vq26, vq28)))))))
noncomputable def M_faultOf  (σ : Mem) : Option (Int32) := (lp (fun s => M_faultOf_b1 σ s.1 s.2) fuel (0, 0)).bind (fun x => Sum.elim (fun _u => lt (if (σ 43 22) ≤ 0 then false else if (σ 43 0) ≤ (σ 43 22) then false else true : Bool) (fun bq31 => lt (if bq31 = true then (σ 43 22) else (-1) : Int32) (fun vq43 => some vq43))) (fun z => some z) x)
set_option maxHeartbeats 4000000 in
set_option maxRecDepth 100000 in
theorem c_M_faultOf (l : Launch) (Y : Wx)   (σ : Mem) (o : Int32) (hf : M_faultOf σ = some o) : Ct l Y 1 y_M_faultOf b_M_faultOf 4 (some .int) 2 [.ref (adr Y 43)] σ (some (.int o)) σ := by
  unfold M_faultOf at hf
  refine ct_of (by decide) (Nat.le_of_ble_eq_true rfl) rfl (fun X hXl hX hR => ?_)
  subst hXl
  have hX : Fx X Y 1 b_M_faultOf 4 R_M 2 := hX
  refine g_iconst hX 0 d_M_faultOf_0 (by decide) ?_
  refine g_istore_nV hX [(1, .int 0), (0, .ref (adr Y 43))] d_M_faultOf_1 (by decide) rfl ?_
  refine g_iconst hX 0 d_M_faultOf_2 (by decide) ?_
  refine g_istore_nV hX [(2, .int 0), (1, .int 0), (0, .ref (adr Y 43))] d_M_faultOf_3 (by decide) rfl ?_
  obtain ⟨h6x, h6, h7⟩ := obind hf
  have KX7 : h6x = .inl () → Gd X Y 1 σ [(0, .ref (adr Y 43))] 52 [] := by
    intro h8
    subst h8
    dsimp only [Sum.elim_inl] at h7
    refine g_aload_n hX d_M_faultOf_52 0 rfl ?_
    refine g_getI hX iw_43 sh_43 rfl fl_M_223.f d_M_faultOf_53 ?_
    obtain ⟨bq31, h32, h33⟩ := ltex h7
    obtain ⟨vq43, h38, h39⟩ := ltex h33
    have KJ39 : Gd X Y 1 σ [] 78 [.int vq43] := by
      cases h39
      exact g_ireturn hX hR d_M_faultOf_78
    have Kbq31t : bq31 = true → Gd X Y 1 σ [(0, .ref (adr Y 43))] 70 [] := by
      intro h44
      have h41 := (if_pos h44).symm.trans h38
      refine g_aload_n hX d_M_faultOf_70 0 rfl ?_
      refine g_getI hX iw_43 sh_43 rfl fl_M_223.f d_M_faultOf_71 ?_
      refine g_goto hX 78 d_M_faultOf_74 (by decide) ?_
      refine g_sub (lv2 := []) [] rfl ?_
      cases h41
      exact KJ39
    have Kbq31f : ¬ bq31 = true → Gd X Y 1 σ [(0, .ref (adr Y 43))] 77 [] := by
      intro h44
      have h42 := (if_neg h44).symm.trans h38
      refine g_iconst hX (-1) d_M_faultOf_77 (by decide) ?_
      refine g_sub (lv2 := []) [] rfl ?_
      cases h42
      exact KJ39
    refine g_if_le hX 77 d_M_faultOf_56 (by decide) h32 (fun h34 => ?_) (fun h35 => ?_)
    · cases h34
      exact Kbq31f (by decide)
    · refine g_aload_n hX d_M_faultOf_59 0 rfl ?_
      refine g_getI hX iw_43 sh_43 rfl fl_M_223.f d_M_faultOf_60 ?_
      refine g_aload_n hX d_M_faultOf_63 0 rfl ?_
      refine g_getI hX iw_43 sh_43 rfl fl_M_7.f d_M_faultOf_64 ?_
      refine g_icmp_ge hX 77 d_M_faultOf_67 (by decide) h35 (fun h36 => ?_) (fun h37 => ?_)
      · cases h36
        exact Kbq31f (by decide)
      · cases h37
        exact Kbq31t rfl
  refine g_sub (lv2 := [(0, .ref (adr Y 43)), (1, .int 0), (2, .int 0)]) [2, 1, 0] rfl ?_
  refine g_loop (fun s => M_faultOf_b1 σ s.1 s.2) (fun s => Gd X Y 1 σ [(0, .ref (adr Y 43)), (1, .int s.1), (2, .int s.2)] 4 []) h6x ?_ fuel (0, 0) h6
  intro s y5 h5 h3 h4
  obtain ⟨vq1, vq2⟩ := s
  have h5 : M_faultOf_b1 σ vq1 vq2 = some y5 := h5
  unfold M_faultOf_b1 at h5
  show Gd X Y 1 σ [(0, .ref (adr Y 43)), (1, .int vq1), (2, .int vq2)] 4 []
  refine g_iload_n hX d_M_faultOf_4 2 rfl ?_
  refine g_aload_n hX d_M_faultOf_5 0 rfl ?_
  refine g_getI hX iw_43 sh_43 rfl fl_M_223.f d_M_faultOf_6 ?_
  refine g_icmp_ge hX 52 d_M_faultOf_9 (by decide) h5 (fun h9 => ?_) (fun h10 => ?_)
  · refine g_sub (lv2 := [(0, .ref (adr Y 43))]) [0] rfl ?_
    cases h9
    exact KX7  (h4 (.inl ()) rfl).symm
  · refine g_aload_n hX d_M_faultOf_12 0 rfl ?_
    refine g_getR hX iw_43 sh_43 rfl fl_M_62 d_M_faultOf_13 ?_
    refine g_iload_n hX d_M_faultOf_16 2 rfl ?_
    refine g_iaload hX iw_60 sh_60 d_M_faultOf_17 h10 (fun vq11 h12 => ?_)
    refine g_bipush hX 97 d_M_faultOf_18 (by decide) ?_
    refine g_isub hX d_M_faultOf_20 ?_
    refine g_istore_n hX (fun vq13 => [(3, .int vq13), (0, .ref (adr Y 43)), (1, .int vq1), (2, .int vq2)]) d_M_faultOf_21 (by decide) (fun _ => rfl) h12 (fun vq13 h14 => ?_)
    refine g_aload_n hX d_M_faultOf_22 1 rfl ?_
    refine g_iload_n hX d_M_faultOf_23 0 rfl ?_
    refine g_callV hX [.int vq13] [] mv_M_214 (c_M_isThing X.2.1 Y vq13 σ _ rfl) (by decide) iw_43 sh_43 rfl rfl rfl (Nat.le_of_ble_eq_true rfl) d_M_faultOf_24 (fun h15 => ?_)
    show Gd X Y 1 σ [(3, .int vq13), (0, .ref (adr Y 43)), (1, .int vq1), (2, .int vq2)] 27 [.int (M_isThing vq13 σ)]
    obtain ⟨bq16, h17, h18⟩ := ltex h14
    have Kbq16t : bq16 = true → Gd X Y 1 σ [(3, .int vq13), (0, .ref (adr Y 43)), (1, .int vq1), (2, .int vq2)] 38 [] := by
      intro h30
      have h24 := (if_pos h30).symm.trans h18
      refine g_iload_n hX d_M_faultOf_38 3 rfl ?_
      cases h24
      have h8 := h4 (.inr vq2) rfl
      subst h8
      dsimp only [Sum.elim_inr] at h7
      cases h7
      exact g_ireturn hX hR d_M_faultOf_39
    have Kbq16f : ¬ bq16 = true → Gd X Y 1 σ [(3, .int vq13), (0, .ref (adr Y 43)), (1, .int vq1), (2, .int vq2)] 40 [] := by
      intro h30
      have h25 := (if_neg h30).symm.trans h18
      refine g_iload_n hX d_M_faultOf_40 2 rfl ?_
      refine g_iconst hX 1 d_M_faultOf_41 (by decide) ?_
      refine g_iload_n hX d_M_faultOf_42 0 rfl ?_
      refine g_ishl hX d_M_faultOf_43 ?_
      refine g_ior hX d_M_faultOf_44 ?_
      refine g_istore_n hX (fun vq26 => [(1, .int vq26), (3, .int vq13), (0, .ref (adr Y 43)), (2, .int vq2)]) d_M_faultOf_45 (by decide) (fun _ => rfl) h25 (fun vq26 h27 => ?_)
      refine g_iinc hX (fun vq28 => [(2, .int vq28), (1, .int vq26), (3, .int vq13), (0, .ref (adr Y 43))]) d_M_faultOf_46 3 rfl rfl (by decide) (fun _ => rfl) h27 (fun vq28 h29 => ?_)
      refine g_goto hX 4 d_M_faultOf_49 (by decide) ?_
      refine g_sub (lv2 := [(0, .ref (adr Y 43)), (1, .int vq26), (2, .int vq28)]) [3, 1, 0] rfl ?_
      cases h29
      exact h3 (vq26, vq28) rfl
    refine g_if_eq hX 38 d_M_faultOf_27 (by decide) h17 (fun h19 => ?_) (fun h20 => ?_)
    · cases h19
      exact Kbq16t rfl
    · refine g_iload_n hX d_M_faultOf_30 2 rfl ?_
      refine g_iload_n hX d_M_faultOf_31 0 rfl ?_
      refine g_callS hX [.int vq1, .int vq13] [] mv_M_81 (c_M_isIn X.2.1 Y vq1 vq13 σ _ rfl) (by decide) rfl rfl (Nat.le_of_ble_eq_true rfl) d_M_faultOf_32 (fun h21 => ?_)
      show Gd X Y 1 σ [(3, .int vq13), (0, .ref (adr Y 43)), (1, .int vq1), (2, .int vq2)] 35 [.int (M_isIn vq1 vq13)]
      refine g_if_eq hX 40 d_M_faultOf_35 (by decide) h20 (fun h22 => ?_) (fun h23 => ?_)
      · cases h22
        exact Kbq16f (by decide)
      · cases h23
        exact Kbq16t rfl
noncomputable def M_fault  (σ : Mem) : Option (Int32) := (M_faultOf σ).bind (fun vq1 => some vq1)
set_option maxHeartbeats 4000000 in
set_option maxRecDepth 100000 in
theorem c_M_fault (l : Launch) (Y : Wx)   (σ : Mem) (o : Int32) (hf : M_fault σ = some o) : Ct l Y 1 y_M_fault b_M_fault 1 (some .int) 3 [.ref (adr Y 43)] σ (some (.int o)) σ := by
  unfold M_fault at hf
  refine ct_of (by decide) (Nat.le_of_ble_eq_true rfl) rfl (fun X hXl hX hR => ?_)
  subst hXl
  have hX : Fx X Y 1 b_M_fault 1 R_M 3 := hX
  refine g_aload_n hX d_M_fault_0 0 rfl ?_
  obtain ⟨vq1, h2, h3⟩ := obind hf
  refine g_callV hX [] [] mv_M_226 (c_M_faultOf X.2.1 Y σ _ h2) (by decide) iw_43 sh_43 rfl rfl rfl (Nat.le_of_ble_eq_true rfl) d_M_fault_1 (fun h4 => ?_)
  show Gd X Y 1 σ [(0, .ref (adr Y 43))] 4 [.int vq1]
  cases h3
  exact g_ireturn hX hR d_M_fault_4
noncomputable def M_isRow  (σ : Mem) : Option (Int32) := ((if (σ 43 22) ≤ 0 then some false else (M_faultOf σ).bind (fun vq6 => if vq6 = (-1) then some true else some false) : Option (Bool))).bind (fun bq1 => lt (if bq1 = true then 1 else 0 : Int32) (fun vq17 => some vq17))
set_option maxHeartbeats 4000000 in
set_option maxRecDepth 100000 in
theorem c_M_isRow (l : Launch) (Y : Wx)   (σ : Mem) (o : Int32) (hf : M_isRow σ = some o) : Ct l Y 1 y_M_isRow b_M_isRow 1 (some .boolean) 3 [.ref (adr Y 43)] σ (some (.int o)) σ := by
  unfold M_isRow at hf
  refine ct_of (by decide) (Nat.le_of_ble_eq_true rfl) rfl (fun X hXl hX hR => ?_)
  subst hXl
  have hX : Fx X Y 1 b_M_isRow 1 R_M 3 := hX
  refine g_aload_n hX d_M_isRow_0 0 rfl ?_
  refine g_getI hX iw_43 sh_43 rfl fl_M_223.f d_M_isRow_1 ?_
  obtain ⟨bq1, h2, h3⟩ := obind hf
  obtain ⟨vq17, h12, h13⟩ := ltex h3
  have KJ13 : okR (some .boolean) (some (.int vq17)) → Gd X Y 1 σ [] 20 [.int vq17] := by
    intro hbvq17
    cases h13
    exact g_zreturn hX hR hbvq17 d_M_isRow_20
  have Kbq1t : bq1 = true → Gd X Y 1 σ [(0, .ref (adr Y 43))] 15 [] := by
    intro h18
    have h15 := (if_pos h18).symm.trans h12
    refine g_iconst hX 1 d_M_isRow_15 (by decide) ?_
    refine g_goto hX 20 d_M_isRow_16 (by decide) ?_
    refine g_sub (lv2 := []) [] rfl ?_
    cases h15
    exact KJ13 okB1
  have Kbq1f : ¬ bq1 = true → Gd X Y 1 σ [(0, .ref (adr Y 43))] 19 [] := by
    intro h18
    have h16 := (if_neg h18).symm.trans h12
    refine g_iconst hX 0 d_M_isRow_19 (by decide) ?_
    refine g_sub (lv2 := []) [] rfl ?_
    cases h16
    exact KJ13 okB0
  refine g_if_le hX 19 d_M_isRow_4 (by decide) h2 (fun h4 => ?_) (fun h5 => ?_)
  · cases h4
    exact Kbq1f (by decide)
  · refine g_aload_n hX d_M_isRow_7 0 rfl ?_
    obtain ⟨vq6, h7, h8⟩ := obind h5
    refine g_callV hX [] [] mv_M_226 (c_M_faultOf X.2.1 Y σ _ h7) (by decide) iw_43 sh_43 rfl rfl rfl (Nat.le_of_ble_eq_true rfl) d_M_isRow_8 (fun h9 => ?_)
    show Gd X Y 1 σ [(0, .ref (adr Y 43))] 11 [.int vq6]
    refine g_iconst hX (-1) d_M_isRow_11 (by decide) ?_
    refine g_icmp_ne hX 19 d_M_isRow_12 (by decide) h8 (fun h10 => ?_) (fun h11 => ?_)
    · cases h10
      exact Kbq1f (by decide)
    · cases h11
      exact Kbq1t rfl
