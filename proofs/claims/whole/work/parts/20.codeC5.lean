noncomputable def O_drawAll_b1  (vq7 : Int32) (σ8 : Mem) : Option ((Int32 × Mem) ⊕ (Mem)) := if (σ8 0 2) ≤ vq7 then some (.inr σ8) else (O_takeGroup vq7 σ8).bind (fun σ18 => lt (vq7 + 1) (fun vq22 => some (.inl (vq22, σ18))))
noncomputable def O_drawAll  (σ : Mem) : Option (Mem) := (T_plant 10 (σ 0 0) σ).bind (fun σ1 => lt (mput σ1 0 3 0) (fun σ5 => (lp (fun s => O_drawAll_b1 s.1 s.2) fuel (0, σ5)).bind (fun σ9 => (T_show 10 3 σ9).bind (fun q => lt q.1 (fun vq24 => lt q.2 (fun σ25 => lt (mput σ25 0 10 vq24) (fun σ29 => some σ29)))))))
set_option maxHeartbeats 4000000 in
set_option maxRecDepth 100000 in
theorem c_O_drawAll (l : Launch) (Y : Wx)   (σ : Mem) (o : Mem) (hf : O_drawAll σ = some o) : Ct l Y 0 y_O_drawAll b_O_drawAll 2 none 29 [.ref (adr Y 0)] σ none o := by
  unfold O_drawAll at hf
  refine ct_of (by decide) (Nat.le_of_ble_eq_true rfl) rfl (fun X hXl hX hR => ?_)
  subst hXl
  have hX : Fx X Y 0 b_O_drawAll 2 R_O 29 := hX
  refine g_aload_n hX d_O_drawAll_0 0 rfl ?_
  refine g_getR hX iw_0 sh_0 rfl fl_O_42 d_O_drawAll_1 ?_
  refine g_aload_n hX d_O_drawAll_4 0 rfl ?_
  refine g_getI hX iw_0 sh_0 rfl fl_O_9.f d_O_drawAll_5 ?_
  obtain ⟨σ1, h2, h3⟩ := obind hf
  refine g_callV hX [.int (σ 0 0)] [] mv_O_94 (c_T_plant X.2.1 Y 10 (σ 0 0) isT_10 σ _ h2) (by decide) iw_10 sh_10 rfl rfl rfl (Nat.le_of_ble_eq_true rfl) d_O_drawAll_8 (fun h4 => ?_)
  show Gd X Y 0 σ1 [(0, .ref (adr Y 0))] 11 []
  refine g_aload_n hX d_O_drawAll_11 0 rfl ?_
  refine g_iconst hX 0 d_O_drawAll_12 (by decide) ?_
  refine g_putI hX iw_0 sh_0 rfl fl_O_20 d_O_drawAll_13 h3 (fun σ5 h6 => ?_)
  refine g_iconst hX 0 d_O_drawAll_16 (by decide) ?_
  refine g_istore_nV hX [(1, .int 0), (0, .ref (adr Y 0))] d_O_drawAll_17 (by decide) rfl ?_
  obtain ⟨σ9, h13, h14⟩ := obind h6
  have KX14 : Gd X Y 0 σ9 [(0, .ref (adr Y 0))] 37 [] := by
    refine g_aload_n hX d_O_drawAll_37 0 rfl ?_
    refine g_aload_n hX d_O_drawAll_38 0 rfl ?_
    refine g_getR hX iw_0 sh_0 rfl fl_O_42 d_O_drawAll_39 ?_
    refine g_aload_n hX d_O_drawAll_42 0 rfl ?_
    refine g_getR hX iw_0 sh_0 rfl fl_O_46 d_O_drawAll_43 ?_
    obtain ⟨⟨vq24, σ25⟩, h26, h27⟩ := obind h14
    have h27 := lt2 h27
    refine g_callV hX [.ref (adr Y 3)] [.ref (adr Y 0)] mv_O_81 (c_T_show X.2.1 Y 10 3 isT_10 isA_3 σ9 _ h26) (by decide) iw_10 sh_10 rfl rfl rfl (Nat.le_of_ble_eq_true rfl) d_O_drawAll_46 (fun h28 => ?_)
    show Gd X Y 0 σ25 [(0, .ref (adr Y 0))] 49 [.int vq24, .ref (adr Y 0)]
    refine g_putI hX iw_0 sh_0 rfl fl_O_49 d_O_drawAll_49 h27 (fun σ29 h30 => ?_)
    cases h30
    exact g_return hX hR d_O_drawAll_52
  refine g_sub (lv2 := [(0, .ref (adr Y 0)), (1, .int 0)]) [1, 0] rfl ?_
  refine g_loop (fun s => O_drawAll_b1 s.1 s.2) (fun s => Gd X Y 0 s.2 [(0, .ref (adr Y 0)), (1, .int s.1)] 18 []) σ9 ?_ fuel (0, σ5) h13
  intro s y12 h12 h10 h11
  obtain ⟨vq7, σ8⟩ := s
  have h12 : O_drawAll_b1 vq7 σ8 = some y12 := h12
  unfold O_drawAll_b1 at h12
  show Gd X Y 0 σ8 [(0, .ref (adr Y 0)), (1, .int vq7)] 18 []
  refine g_iload_n hX d_O_drawAll_18 1 rfl ?_
  refine g_aload_n hX d_O_drawAll_19 0 rfl ?_
  refine g_getI hX iw_0 sh_0 rfl fl_O_17.f d_O_drawAll_20 ?_
  refine g_icmp_ge hX 37 d_O_drawAll_23 (by decide) h12 (fun h16 => ?_) (fun h17 => ?_)
  · refine g_sub (lv2 := [(0, .ref (adr Y 0))]) [0] rfl ?_
    cases h16
    have h15 := h11 σ8 rfl
    cases h15
    exact KX14
  · refine g_aload_n hX d_O_drawAll_26 0 rfl ?_
    refine g_iload_n hX d_O_drawAll_27 1 rfl ?_
    obtain ⟨σ18, h19, h20⟩ := obind h17
    refine g_callV hX [.int vq7] [] mv_O_77 (c_O_takeGroup X.2.1 Y vq7 σ8 _ h19) (by decide) iw_0 sh_0 rfl rfl rfl (Nat.le_of_ble_eq_true rfl) d_O_drawAll_28 (fun h21 => ?_)
    show Gd X Y 0 σ18 [(0, .ref (adr Y 0)), (1, .int vq7)] 31 []
    refine g_iinc hX (fun vq22 => [(1, .int vq22), (0, .ref (adr Y 0))]) d_O_drawAll_31 1 rfl rfl (by decide) (fun _ => rfl) h20 (fun vq22 h23 => ?_)
    refine g_goto hX 18 d_O_drawAll_34 (by decide) ?_
    refine g_sub (lv2 := [(0, .ref (adr Y 0)), (1, .int vq22)]) [1, 0] rfl ?_
    cases h23
    exact h10 (vq22, σ18) rfl
noncomputable def O_things (x1 : Int32) (σ : Mem) : Option (Int32 × Mem) := lt (if x1 < 1 then true else if x1 ≤ 8 then false else true : Bool) (fun bq1 => if bq1 = true then some ((-2), σ) else lt (σ 0 0) (fun vq10 => lt (mput σ 0 0 x1) (fun σ12 => (O_drawAll σ12).bind (fun σ14 => some (vq10, σ14)))))
set_option maxHeartbeats 4000000 in
set_option maxRecDepth 100000 in
theorem c_O_things (l : Launch) (Y : Wx) (x1 : Int32)  (σ : Mem) (o : Int32 × Mem) (hf : O_things x1 σ = some o) : Ct l Y 0 y_O_things b_O_things 3 (some .int) 30 [.ref (adr Y 0), .int x1] σ (some (.int o.1)) o.2 := by
  unfold O_things at hf
  refine ct_of (by decide) (Nat.le_of_ble_eq_true rfl) rfl (fun X hXl hX hR => ?_)
  subst hXl
  have hX : Fx X Y 0 b_O_things 3 R_O 30 := hX
  refine g_iload_n hX d_O_things_0 1 rfl ?_
  refine g_iconst hX 1 d_O_things_1 (by decide) ?_
  obtain ⟨bq1, h2, h3⟩ := ltex hf
  have Kbq1t : bq1 = true → Gd X Y 0 σ [(0, .ref (adr Y 0)), (1, .int x1)] 11 [] := by
    intro h18
    have h8 := (if_pos h18).symm.trans h3
    refine g_bipush hX (-2) d_O_things_11 (by decide) ?_
    cases h8
    exact g_ireturn hX hR d_O_things_13
  have Kbq1f : ¬ bq1 = true → Gd X Y 0 σ [(0, .ref (adr Y 0)), (1, .int x1)] 14 [] := by
    intro h18
    have h9 := (if_neg h18).symm.trans h3
    refine g_aload_n hX d_O_things_14 0 rfl ?_
    refine g_getI hX iw_0 sh_0 rfl fl_O_9.f d_O_things_15 ?_
    refine g_istore_n hX (fun vq10 => [(2, .int vq10), (0, .ref (adr Y 0)), (1, .int x1)]) d_O_things_18 (by decide) (fun _ => rfl) h9 (fun vq10 h11 => ?_)
    refine g_aload_n hX d_O_things_19 1 rfl ?_
    refine g_iload_n hX d_O_things_20 2 rfl ?_
    refine g_putI hX iw_0 sh_0 rfl fl_O_9 d_O_things_21 h11 (fun σ12 h13 => ?_)
    refine g_aload_n hX d_O_things_24 1 rfl ?_
    obtain ⟨σ14, h15, h16⟩ := obind h13
    refine g_callV hX [] [] mv_O_64 (c_O_drawAll X.2.1 Y σ12 _ h15) (by decide) iw_0 sh_0 rfl rfl rfl (Nat.le_of_ble_eq_true rfl) d_O_things_25 (fun h17 => ?_)
    show Gd X Y 0 σ14 [(2, .int vq10), (0, .ref (adr Y 0)), (1, .int x1)] 28 []
    refine g_iload_n hX d_O_things_28 0 rfl ?_
    cases h16
    exact g_ireturn hX hR d_O_things_29
  refine g_icmp_lt hX 11 d_O_things_2 (by decide) h2 (fun h4 => ?_) (fun h5 => ?_)
  · cases h4
    exact Kbq1t rfl
  · refine g_iload_n hX d_O_things_5 1 rfl ?_
    refine g_bipush hX 8 d_O_things_6 (by decide) ?_
    refine g_icmp_le hX 14 d_O_things_8 (by decide) h5 (fun h6 => ?_) (fun h7 => ?_)
    · cases h6
      exact Kbq1f (by decide)
    · cases h7
      exact Kbq1t rfl
noncomputable def O_isSet (x0 : Int32) : Int32 := lt (if x0 < 0 then false else if 256 ≤ x0 then false else true : Bool) (fun bq1 => lt (if bq1 = true then 1 else 0 : Int32) (fun vq13 => vq13))
set_option maxHeartbeats 4000000 in
set_option maxRecDepth 100000 in
theorem c_O_isSet (l : Launch) (Y : Wx) (x0 : Int32)  (σ : Mem) (o : Int32) (hf : O_isSet x0 = o) : Ct l Y 0 y_O_isSet b_O_isSet 1 (some .boolean) 0 [.int x0] σ (some (.int o)) σ := by
  unfold O_isSet at hf
  refine ct_of (by decide) (Nat.le_of_ble_eq_true rfl) rfl (fun X hXl hX hR => ?_)
  subst hXl
  have hX : Fx X Y 0 b_O_isSet 1 R_O 0 := hX
  refine g_iload_n hX d_O_isSet_0 0 rfl ?_
  obtain ⟨bq1, h2, h3⟩ := ltex hf
  obtain ⟨vq13, h8, h9⟩ := ltex h3
  have KJ9 : okR (some .boolean) (some (.int vq13)) → Gd X Y 0 σ [] 16 [.int vq13] := by
    intro hbvq13
    cases h9
    exact g_zreturn hX hR hbvq13 d_O_isSet_16
  have Kbq1t : bq1 = true → Gd X Y 0 σ [(0, .int x0)] 11 [] := by
    intro h14
    have h11 := (if_pos h14).symm.trans h8
    refine g_iconst hX 1 d_O_isSet_11 (by decide) ?_
    refine g_goto hX 16 d_O_isSet_12 (by decide) ?_
    refine g_sub (lv2 := []) [] rfl ?_
    cases h11
    exact KJ9 okB1
  have Kbq1f : ¬ bq1 = true → Gd X Y 0 σ [(0, .int x0)] 15 [] := by
    intro h14
    have h12 := (if_neg h14).symm.trans h8
    refine g_iconst hX 0 d_O_isSet_15 (by decide) ?_
    refine g_sub (lv2 := []) [] rfl ?_
    cases h12
    exact KJ9 okB0
  refine g_if_lt hX 15 d_O_isSet_1 (by decide) h2 (fun h4 => ?_) (fun h5 => ?_)
  · cases h4
    exact Kbq1f (by decide)
  · refine g_iload_n hX d_O_isSet_4 0 rfl ?_
    refine g_sipush hX 256 d_O_isSet_5 (by decide) ?_
    refine g_icmp_ge hX 15 d_O_isSet_8 (by decide) h5 (fun h6 => ?_) (fun h7 => ?_)
    · cases h6
      exact Kbq1f (by decide)
    · cases h7
      exact Kbq1t rfl
noncomputable def O_isGroup (x1 : Int32) (σ : Mem) : Int32 := lt (if x1 < 0 then false else if (σ 0 2) ≤ x1 then false else true : Bool) (fun bq1 => lt (if bq1 = true then 1 else 0 : Int32) (fun vq13 => vq13))
set_option maxHeartbeats 4000000 in
set_option maxRecDepth 100000 in
theorem c_O_isGroup (l : Launch) (Y : Wx) (x1 : Int32)  (σ : Mem) (o : Int32) (hf : O_isGroup x1 σ = o) : Ct l Y 0 y_O_isGroup b_O_isGroup 2 (some .boolean) 0 [.ref (adr Y 0), .int x1] σ (some (.int o)) σ := by
  unfold O_isGroup at hf
  refine ct_of (by decide) (Nat.le_of_ble_eq_true rfl) rfl (fun X hXl hX hR => ?_)
  subst hXl
  have hX : Fx X Y 0 b_O_isGroup 2 R_O 0 := hX
  refine g_iload_n hX d_O_isGroup_0 1 rfl ?_
  obtain ⟨bq1, h2, h3⟩ := ltex hf
  obtain ⟨vq13, h8, h9⟩ := ltex h3
  have KJ9 : okR (some .boolean) (some (.int vq13)) → Gd X Y 0 σ [] 17 [.int vq13] := by
    intro hbvq13
    cases h9
    exact g_zreturn hX hR hbvq13 d_O_isGroup_17
  have Kbq1t : bq1 = true → Gd X Y 0 σ [(0, .ref (adr Y 0)), (1, .int x1)] 12 [] := by
    intro h14
    have h11 := (if_pos h14).symm.trans h8
    refine g_iconst hX 1 d_O_isGroup_12 (by decide) ?_
    refine g_goto hX 17 d_O_isGroup_13 (by decide) ?_
    refine g_sub (lv2 := []) [] rfl ?_
    cases h11
    exact KJ9 okB1
  have Kbq1f : ¬ bq1 = true → Gd X Y 0 σ [(0, .ref (adr Y 0)), (1, .int x1)] 16 [] := by
    intro h14
    have h12 := (if_neg h14).symm.trans h8
    refine g_iconst hX 0 d_O_isGroup_16 (by decide) ?_
    refine g_sub (lv2 := []) [] rfl ?_
    cases h12
    exact KJ9 okB0
  refine g_if_lt hX 16 d_O_isGroup_1 (by decide) h2 (fun h4 => ?_) (fun h5 => ?_)
  · cases h4
    exact Kbq1f (by decide)
  · refine g_iload_n hX d_O_isGroup_4 1 rfl ?_
    refine g_aload_n hX d_O_isGroup_5 0 rfl ?_
    refine g_getI hX iw_0 sh_0 rfl fl_O_17.f d_O_isGroup_6 ?_
    refine g_icmp_ge hX 16 d_O_isGroup_9 (by decide) h5 (fun h6 => ?_) (fun h7 => ?_)
    · cases h6
      exact Kbq1f (by decide)
    · cases h7
      exact Kbq1t rfl
noncomputable def O_isTaken (x1 : Int32) (σ : Mem) : Int32 := lt (if (((σ 0 3) >>> (x1 &&& 31)) &&& 1) = 0 then 0 else 1 : Int32) (fun vq6 => vq6)
set_option maxHeartbeats 4000000 in
set_option maxRecDepth 100000 in
theorem c_O_isTaken (l : Launch) (Y : Wx) (x1 : Int32)  (σ : Mem) (o : Int32) (hf : O_isTaken x1 σ = o) : Ct l Y 0 y_O_isTaken b_O_isTaken 2 (some .boolean) 0 [.ref (adr Y 0), .int x1] σ (some (.int o)) σ := by
  unfold O_isTaken at hf
  refine ct_of (by decide) (Nat.le_of_ble_eq_true rfl) rfl (fun X hXl hX hR => ?_)
  subst hXl
  have hX : Fx X Y 0 b_O_isTaken 2 R_O 0 := hX
  refine g_aload_n hX d_O_isTaken_0 0 rfl ?_
  refine g_getI hX iw_0 sh_0 rfl fl_O_20.f d_O_isTaken_1 ?_
  refine g_iload_n hX d_O_isTaken_4 1 rfl ?_
  refine g_ishr hX d_O_isTaken_5 ?_
  refine g_iconst hX 1 d_O_isTaken_6 (by decide) ?_
  refine g_iand hX d_O_isTaken_7 ?_
  obtain ⟨vq6, h1, h2⟩ := ltex hf
  have KJ2 : okR (some .boolean) (some (.int vq6)) → Gd X Y 0 σ [] 16 [.int vq6] := by
    intro hbvq6
    cases h2
    exact g_zreturn hX hR hbvq6 d_O_isTaken_16
  refine g_if_eq hX 15 d_O_isTaken_8 (by decide) h1 (fun h4 => ?_) (fun h5 => ?_)
  · refine g_iconst hX 0 d_O_isTaken_15 (by decide) ?_
    refine g_sub (lv2 := []) [] rfl ?_
    cases h4
    exact KJ2 okB0
  · refine g_iconst hX 1 d_O_isTaken_11 (by decide) ?_
    refine g_goto hX 16 d_O_isTaken_12 (by decide) ?_
    refine g_sub (lv2 := []) [] rfl ?_
    cases h5
    exact KJ2 okB1
noncomputable def O_taken (x1 : Int32) (σ : Mem) : Int32 := if (O_isGroup x1 σ) = 0 then (-2) else lt (if (O_isTaken x1 σ) = 0 then 0 else 1 : Int32) (fun vq10 => vq10)
set_option maxHeartbeats 4000000 in
set_option maxRecDepth 100000 in
theorem c_O_taken (l : Launch) (Y : Wx) (x1 : Int32)  (σ : Mem) (o : Int32) (hf : O_taken x1 σ = o) : Ct l Y 0 y_O_taken b_O_taken 2 (some .int) 1 [.ref (adr Y 0), .int x1] σ (some (.int o)) σ := by
  unfold O_taken at hf
  refine ct_of (by decide) (Nat.le_of_ble_eq_true rfl) rfl (fun X hXl hX hR => ?_)
  subst hXl
  have hX : Fx X Y 0 b_O_taken 2 R_O 1 := hX
  refine g_aload_n hX d_O_taken_0 0 rfl ?_
  refine g_iload_n hX d_O_taken_1 1 rfl ?_
  refine g_callV hX [.int x1] [] mv_O_88 (c_O_isGroup X.2.1 Y x1 σ _ rfl) (by decide) iw_0 sh_0 rfl rfl rfl (Nat.le_of_ble_eq_true rfl) d_O_taken_2 (fun h1 => ?_)
  show Gd X Y 0 σ [(0, .ref (adr Y 0)), (1, .int x1)] 5 [.int (O_isGroup x1 σ)]
  refine g_if_ne hX 11 d_O_taken_5 (by decide) hf (fun h2 => ?_) (fun h3 => ?_)
  · refine g_aload_n hX d_O_taken_11 0 rfl ?_
    refine g_iload_n hX d_O_taken_12 1 rfl ?_
    refine g_callV hX [.int x1] [] mv_O_91 (c_O_isTaken X.2.1 Y x1 σ _ rfl) (by decide) iw_0 sh_0 rfl rfl rfl (Nat.le_of_ble_eq_true rfl) d_O_taken_13 (fun h4 => ?_)
    show Gd X Y 0 σ [(0, .ref (adr Y 0)), (1, .int x1)] 16 [.int (O_isTaken x1 σ)]
    obtain ⟨vq10, h5, h6⟩ := ltex h2
    have KJ6 : okR (some .boolean) (some (.int vq10)) → Gd X Y 0 σ [] 24 [.int vq10] := by
      intro hbvq10
      cases h6
      exact g_ireturn hX hR d_O_taken_24
    refine g_if_eq hX 23 d_O_taken_16 (by decide) h5 (fun h8 => ?_) (fun h9 => ?_)
    · refine g_iconst hX 0 d_O_taken_23 (by decide) ?_
      refine g_sub (lv2 := []) [] rfl ?_
      cases h8
      exact KJ6 okB0
    · refine g_iconst hX 1 d_O_taken_19 (by decide) ?_
      refine g_goto hX 24 d_O_taken_20 (by decide) ?_
      refine g_sub (lv2 := []) [] rfl ?_
      cases h9
      exact KJ6 okB1
  · refine g_bipush hX (-2) d_O_taken_8 (by decide) ?_
    cases h3
    exact g_ireturn hX hR d_O_taken_10
noncomputable def O_group (x1 : Int32) (σ : Mem) : Option (Int32 × Mem) := lt (if (O_isSet x1) = 0 then true else if 2 ≤ (J_bitCount x1) then false else true : Bool) (fun bq2 => if bq2 = true then some ((-2), σ) else if (σ 0 2) < 10 then (wr σ 1 (σ 0 2) x1).bind (fun σ14 => lt (mput σ14 0 2 ((σ14 0 2) + 1)) (fun σ16 => (O_takeGroup ((σ16 0 2) - 1) σ16).bind (fun σ18 => (T_show 10 3 σ18).bind (fun q => lt q.1 (fun vq22 => lt q.2 (fun σ23 => lt (mput σ23 0 10 vq22) (fun σ27 => some ((O_taken ((σ27 0 2) - 1) σ27), σ27)))))))) else some ((-4), σ))
set_option maxHeartbeats 4000000 in
set_option maxRecDepth 100000 in
theorem c_O_group (l : Launch) (Y : Wx) (x1 : Int32)  (σ : Mem) (o : Int32 × Mem) (hf : O_group x1 σ = some o) : Ct l Y 0 y_O_group b_O_group 2 (some .int) 29 [.ref (adr Y 0), .int x1] σ (some (.int o.1)) o.2 := by
  unfold O_group at hf
  refine ct_of (by decide) (Nat.le_of_ble_eq_true rfl) rfl (fun X hXl hX hR => ?_)
  subst hXl
  have hX : Fx X Y 0 b_O_group 2 R_O 29 := hX
  refine g_iload_n hX d_O_group_0 1 rfl ?_
  refine g_callS hX [.int x1] [] mv_O_67 (c_O_isSet X.2.1 Y x1 σ _ rfl) (by decide) rfl rfl (Nat.le_of_ble_eq_true rfl) d_O_group_1 (fun h1 => ?_)
  show Gd X Y 0 σ [(0, .ref (adr Y 0)), (1, .int x1)] 4 [.int (O_isSet x1)]
  obtain ⟨bq2, h3, h4⟩ := ltex hf
  have Kbq2t : bq2 = true → Gd X Y 0 σ [(0, .ref (adr Y 0)), (1, .int x1)] 15 [] := by
    intro h30
    have h10 := (if_pos h30).symm.trans h4
    refine g_bipush hX (-2) d_O_group_15 (by decide) ?_
    cases h10
    exact g_ireturn hX hR d_O_group_17
  have Kbq2f : ¬ bq2 = true → Gd X Y 0 σ [(0, .ref (adr Y 0)), (1, .int x1)] 18 [] := by
    intro h30
    have h11 := (if_neg h30).symm.trans h4
    refine g_aload_n hX d_O_group_18 0 rfl ?_
    refine g_getI hX iw_0 sh_0 rfl fl_O_17.f d_O_group_19 ?_
    refine g_bipush hX 10 d_O_group_22 (by decide) ?_
    refine g_icmp_lt hX 30 d_O_group_24 (by decide) h11 (fun h12 => ?_) (fun h13 => ?_)
    · refine g_aload_n hX d_O_group_30 0 rfl ?_
      refine g_getR hX iw_0 sh_0 rfl fl_O_13 d_O_group_31 ?_
      refine g_aload_n hX d_O_group_34 0 rfl ?_
      refine g_getI hX iw_0 sh_0 rfl fl_O_17.f d_O_group_35 ?_
      refine g_iload_n hX d_O_group_38 1 rfl ?_
      refine g_iastore hX iw_1 sh_1 d_O_group_39 h12 (fun σ14 h15 => ?_)
      refine g_aload_n hX d_O_group_40 0 rfl ?_
      refine g_dup hX d_O_group_41 rfl ?_
      refine g_getI hX iw_0 sh_0 rfl fl_O_17.f d_O_group_42 ?_
      refine g_iconst hX 1 d_O_group_45 (by decide) ?_
      refine g_iadd hX d_O_group_46 ?_
      refine g_putI hX iw_0 sh_0 rfl fl_O_17 d_O_group_47 h15 (fun σ16 h17 => ?_)
      refine g_aload_n hX d_O_group_50 0 rfl ?_
      refine g_aload_n hX d_O_group_51 0 rfl ?_
      refine g_getI hX iw_0 sh_0 rfl fl_O_17.f d_O_group_52 ?_
      refine g_iconst hX 1 d_O_group_55 (by decide) ?_
      refine g_isub hX d_O_group_56 ?_
      obtain ⟨σ18, h19, h20⟩ := obind h17
      refine g_callV hX [.int ((σ16 0 2) - 1)] [] mv_O_77 (c_O_takeGroup X.2.1 Y ((σ16 0 2) - 1) σ16 _ h19) (by decide) iw_0 sh_0 rfl rfl rfl (Nat.le_of_ble_eq_true rfl) d_O_group_57 (fun h21 => ?_)
      show Gd X Y 0 σ18 [(0, .ref (adr Y 0)), (1, .int x1)] 60 []
      refine g_aload_n hX d_O_group_60 0 rfl ?_
      refine g_aload_n hX d_O_group_61 0 rfl ?_
      refine g_getR hX iw_0 sh_0 rfl fl_O_42 d_O_group_62 ?_
      refine g_aload_n hX d_O_group_65 0 rfl ?_
      refine g_getR hX iw_0 sh_0 rfl fl_O_46 d_O_group_66 ?_
      obtain ⟨⟨vq22, σ23⟩, h24, h25⟩ := obind h20
      have h25 := lt2 h25
      refine g_callV hX [.ref (adr Y 3)] [.ref (adr Y 0)] mv_O_81 (c_T_show X.2.1 Y 10 3 isT_10 isA_3 σ18 _ h24) (by decide) iw_10 sh_10 rfl rfl rfl (Nat.le_of_ble_eq_true rfl) d_O_group_69 (fun h26 => ?_)
      show Gd X Y 0 σ23 [(0, .ref (adr Y 0)), (1, .int x1)] 72 [.int vq22, .ref (adr Y 0)]
      refine g_putI hX iw_0 sh_0 rfl fl_O_49 d_O_group_72 h25 (fun σ27 h28 => ?_)
      refine g_aload_n hX d_O_group_75 0 rfl ?_
      refine g_aload_n hX d_O_group_76 0 rfl ?_
      refine g_getI hX iw_0 sh_0 rfl fl_O_17.f d_O_group_77 ?_
      refine g_iconst hX 1 d_O_group_80 (by decide) ?_
      refine g_isub hX d_O_group_81 ?_
      refine g_callV hX [.int ((σ27 0 2) - 1)] [] mv_O_85 (c_O_taken X.2.1 Y ((σ27 0 2) - 1) σ27 _ rfl) (by decide) iw_0 sh_0 rfl rfl rfl (Nat.le_of_ble_eq_true rfl) d_O_group_82 (fun h29 => ?_)
      show Gd X Y 0 σ27 [(0, .ref (adr Y 0)), (1, .int x1)] 85 [.int (O_taken ((σ27 0 2) - 1) σ27)]
      cases h28
      exact g_ireturn hX hR d_O_group_85
    · refine g_bipush hX (-4) d_O_group_27 (by decide) ?_
      cases h13
      exact g_ireturn hX hR d_O_group_29
  refine g_if_eq hX 15 d_O_group_4 (by decide) h3 (fun h5 => ?_) (fun h6 => ?_)
  · cases h5
    exact Kbq2t rfl
  · refine g_iload_n hX d_O_group_7 1 rfl ?_
    refine g_callS hX [.int x1] [] mv_O_71 (c_J_bitCount X.2.1 Y x1 σ _ rfl) (by decide) rfl rfl (Nat.le_of_ble_eq_true rfl) d_O_group_8 (fun h7 => ?_)
    show Gd X Y 0 σ [(0, .ref (adr Y 0)), (1, .int x1)] 11 [.int (J_bitCount x1)]
    refine g_iconst hX 2 d_O_group_11 (by decide) ?_
    refine g_icmp_ge hX 18 d_O_group_12 (by decide) h6 (fun h8 => ?_) (fun h9 => ?_)
    · cases h8
      exact Kbq2f (by decide)
    · cases h9
      exact Kbq2t rfl
noncomputable def O_back  (σ : Mem) : Option (Int32 × Mem) := if 1 ≤ (σ 0 2) then lt (mput σ 0 2 ((σ 0 2) - 1)) (fun σ3 => (O_drawAll σ3).bind (fun σ5 => some ((σ5 0 2), σ5))) else some ((-3), σ)
set_option maxHeartbeats 4000000 in
set_option maxRecDepth 100000 in
theorem c_O_back (l : Launch) (Y : Wx)   (σ : Mem) (o : Int32 × Mem) (hf : O_back σ = some o) : Ct l Y 0 y_O_back b_O_back 1 (some .int) 30 [.ref (adr Y 0)] σ (some (.int o.1)) o.2 := by
  unfold O_back at hf
  refine ct_of (by decide) (Nat.le_of_ble_eq_true rfl) rfl (fun X hXl hX hR => ?_)
  subst hXl
  have hX : Fx X Y 0 b_O_back 1 R_O 30 := hX
  refine g_aload_n hX d_O_back_0 0 rfl ?_
  refine g_getI hX iw_0 sh_0 rfl fl_O_17.f d_O_back_1 ?_
  refine g_iconst hX 1 d_O_back_4 (by decide) ?_
  refine g_icmp_ge hX 11 d_O_back_5 (by decide) hf (fun h1 => ?_) (fun h2 => ?_)
  · refine g_aload_n hX d_O_back_11 0 rfl ?_
    refine g_dup hX d_O_back_12 rfl ?_
    refine g_getI hX iw_0 sh_0 rfl fl_O_17.f d_O_back_13 ?_
    refine g_iconst hX 1 d_O_back_16 (by decide) ?_
    refine g_isub hX d_O_back_17 ?_
    refine g_putI hX iw_0 sh_0 rfl fl_O_17 d_O_back_18 h1 (fun σ3 h4 => ?_)
    refine g_aload_n hX d_O_back_21 0 rfl ?_
    obtain ⟨σ5, h6, h7⟩ := obind h4
    refine g_callV hX [] [] mv_O_64 (c_O_drawAll X.2.1 Y σ3 _ h6) (by decide) iw_0 sh_0 rfl rfl rfl (Nat.le_of_ble_eq_true rfl) d_O_back_22 (fun h8 => ?_)
    show Gd X Y 0 σ5 [(0, .ref (adr Y 0))] 25 []
    refine g_aload_n hX d_O_back_25 0 rfl ?_
    refine g_getI hX iw_0 sh_0 rfl fl_O_17.f d_O_back_26 ?_
    cases h7
    exact g_ireturn hX hR d_O_back_29
  · refine g_bipush hX (-3) d_O_back_8 (by decide) ?_
    cases h2
    exact g_ireturn hX hR d_O_back_10
noncomputable def O_reason_b1 (x1 : Int32) (vq20 : Int32) (vq44 : Int32) (vq45 : Int32) (σ46 : Mem) : Option ((Int32 × Int32 × Mem) ⊕ (Int32 × Mem)) := lt (if x1 ≤ vq45 then false else if vq44 = 0 then false else true : Bool) (fun bq55 => if bq55 = true then ((if ((vq20 >>> (vq45 &&& 31)) &&& 1) = 0 then some (true, σ46) else (rd σ46 1 vq45).bind (fun vq70 => (T_reduce 32 vq70 σ46).bind (fun q => lt q.1 (fun vq72 => lt q.2 (fun σ73 => if vq72 = 0 then some (false, σ73) else some (true, σ73))))) : Option (Bool × Mem))).bind (fun q => lt q.1 (fun bq64 => lt q.2 (fun σ65 => lt (if bq64 = true then 1 else 0 : Int32) (fun vq84 => lt (vq45 + 1) (fun vq86 => some (.inl (vq84, vq86, σ65))))))) else some (.inr (vq44, σ46)))
noncomputable def O_reason_b2 (x1 : Int32) (vq20 : Int32) (vq21 : Int32) (σ22 : Mem) : Option ((Int32 × Int32 × Mem) ⊕ ((Int32 × Mem) ⊕ (Int32 × Mem))) := if x1 ≤ vq21 then some (.inr (.inl (vq20, σ22))) else ((if ((vq20 >>> (vq21 &&& 31)) &&& 1) = 0 then some (.inl (vq20, σ22)) else (T_draw 32 21 σ22).bind (fun σ38 => lt (vq21 + 1) (fun vq42 => (lp (fun s => O_reason_b1 x1 vq20 s.1 s.2.1 s.2.2) fuel (1, vq42, σ38)).bind (fun q => lt q.1 (fun vq47 => lt q.2 (fun σ48 => if vq47 = 0 then lt (vq20 &&& ((1 <<< (vq21 &&& 31)) ^^^ (-1))) (fun vq102 => some (.inl (vq102, σ48))) else (rd σ48 1 vq21).bind (fun vq91 => (T_reduce 21 vq91 σ48).bind (fun q => lt q.1 (fun vq93 => lt q.2 (fun σ94 => if vq93 = 0 then some (.inr (.inr (.inr ((vq20 &&& ((2 <<< (vq21 &&& 31)) - 1)), σ94)))) else some (.inl (vq20, σ94))))))))))) : Option ((Int32 × Mem) ⊕ ((Int32 × Int32 × Mem) ⊕ ((Int32 × Mem) ⊕ (Int32 × Mem)))))).bind (fun x => Sum.elim (fun q => lt q.1 (fun vq100 => lt q.2 (fun σ101 => lt (vq21 + 1) (fun vq104 => some (.inl (vq100, vq104, σ101)))))) (fun z => some z) x)
noncomputable def O_reason (x1 : Int32) (σ : Mem) : Option (Int32 × Mem) := if (O_isGroup x1 σ) = 0 then some ((-2), σ) else if (O_isTaken x1 σ) = 0 then lt ((σ 0 3) &&& ((1 <<< (x1 &&& 31)) - 1)) (fun vq7 => (T_plant 21 (σ 0 0) σ).bind (fun σ9 => (rd σ9 1 x1).bind (fun vq13 => (T_reduce 21 vq13 σ9).bind (fun q => lt q.1 (fun vq15 => lt q.2 (fun σ16 => (lp (fun s => O_reason_b2 x1 s.1 s.2.1 s.2.2) fuel (vq7, 0, σ16)).bind (fun x => Sum.elim (fun q => lt q.1 (fun vq23 => lt q.2 (fun σ24 => some (vq23, σ24)))) (fun z => some z) x))))))) else some ((-3), σ)
set_option maxHeartbeats 4000000 in
set_option maxRecDepth 100000 in
theorem c_O_reason (l : Launch) (Y : Wx) (x1 : Int32)  (σ : Mem) (o : Int32 × Mem) (hf : O_reason x1 σ = some o) : Ct l Y 0 y_O_reason b_O_reason 6 (some .int) 28 [.ref (adr Y 0), .int x1] σ (some (.int o.1)) o.2 := by
  unfold O_reason at hf
  refine ct_of (by decide) (Nat.le_of_ble_eq_true rfl) rfl (fun X hXl hX hR => ?_)
  subst hXl
  have hX : Fx X Y 0 b_O_reason 6 R_O 28 := hX
  refine g_aload_n hX d_O_reason_0 0 rfl ?_
  refine g_iload_n hX d_O_reason_1 1 rfl ?_
  refine g_callV hX [.int x1] [] mv_O_88 (c_O_isGroup X.2.1 Y x1 σ _ rfl) (by decide) iw_0 sh_0 rfl rfl rfl (Nat.le_of_ble_eq_true rfl) d_O_reason_2 (fun h1 => ?_)
  show Gd X Y 0 σ [(0, .ref (adr Y 0)), (1, .int x1)] 5 [.int (O_isGroup x1 σ)]
  refine g_if_ne hX 11 d_O_reason_5 (by decide) hf (fun h2 => ?_) (fun h3 => ?_)
  · refine g_aload_n hX d_O_reason_11 0 rfl ?_
    refine g_iload_n hX d_O_reason_12 1 rfl ?_
    refine g_callV hX [.int x1] [] mv_O_91 (c_O_isTaken X.2.1 Y x1 σ _ rfl) (by decide) iw_0 sh_0 rfl rfl rfl (Nat.le_of_ble_eq_true rfl) d_O_reason_13 (fun h4 => ?_)
    show Gd X Y 0 σ [(0, .ref (adr Y 0)), (1, .int x1)] 16 [.int (O_isTaken x1 σ)]
    refine g_if_eq hX 22 d_O_reason_16 (by decide) h2 (fun h5 => ?_) (fun h6 => ?_)
    · refine g_aload_n hX d_O_reason_22 0 rfl ?_
      refine g_getI hX iw_0 sh_0 rfl fl_O_20.f d_O_reason_23 ?_
      refine g_iconst hX 1 d_O_reason_26 (by decide) ?_
      refine g_iload_n hX d_O_reason_27 1 rfl ?_
      refine g_ishl hX d_O_reason_28 ?_
      refine g_iconst hX 1 d_O_reason_29 (by decide) ?_
      refine g_isub hX d_O_reason_30 ?_
      refine g_iand hX d_O_reason_31 ?_
      refine g_istore_n hX (fun vq7 => [(2, .int vq7), (0, .ref (adr Y 0)), (1, .int x1)]) d_O_reason_32 (by decide) (fun _ => rfl) h5 (fun vq7 h8 => ?_)
      refine g_aload_n hX d_O_reason_33 1 rfl ?_
      refine g_getR hX iw_0 sh_0 rfl fl_O_52 d_O_reason_34 ?_
      refine g_aload_n hX d_O_reason_37 1 rfl ?_
      refine g_getI hX iw_0 sh_0 rfl fl_O_9.f d_O_reason_38 ?_
      obtain ⟨σ9, h10, h11⟩ := obind h8
      refine g_callV hX [.int (σ 0 0)] [] mv_O_94 (c_T_plant X.2.1 Y 21 (σ 0 0) isT_21 σ _ h10) (by decide) iw_21 sh_21 rfl rfl rfl (Nat.le_of_ble_eq_true rfl) d_O_reason_41 (fun h12 => ?_)
      show Gd X Y 0 σ9 [(2, .int vq7), (0, .ref (adr Y 0)), (1, .int x1)] 44 []
      refine g_aload_n hX d_O_reason_44 1 rfl ?_
      refine g_getR hX iw_0 sh_0 rfl fl_O_52 d_O_reason_45 ?_
      refine g_aload_n hX d_O_reason_48 1 rfl ?_
      refine g_getR hX iw_0 sh_0 rfl fl_O_13 d_O_reason_49 ?_
      refine g_iload_n hX d_O_reason_52 2 rfl ?_
      refine g_iaload hX iw_1 sh_1 d_O_reason_53 h11 (fun vq13 h14 => ?_)
      obtain ⟨⟨vq15, σ16⟩, h17, h18⟩ := obind h14
      have h18 := lt2 h18
      refine g_callV hX [.int vq13] [] mv_O_97 (c_T_reduce X.2.1 Y 21 vq13 isT_21 σ9 _ h17) (by decide) iw_21 sh_21 rfl rfl rfl (Nat.le_of_ble_eq_true rfl) d_O_reason_54 (fun h19 => ?_)
      show Gd X Y 0 σ16 [(2, .int vq7), (0, .ref (adr Y 0)), (1, .int x1)] 57 [.int vq15]
      refine g_pop hX d_O_reason_57 rfl ?_
      refine g_iconst hX 0 d_O_reason_58 (by decide) ?_
      refine g_istore_nV hX [(3, .int 0), (2, .int vq7), (0, .ref (adr Y 0)), (1, .int x1)] d_O_reason_59 (by decide) rfl ?_
      obtain ⟨h28x, h28, h29⟩ := obind h18
      have KX29 : ∀ (vq23 : Int32) (σ24 : Mem) , h28x = .inl (vq23, σ24) → Gd X Y 0 σ24 [(2, .int vq23)] 191 [] := by
        intro vq23 σ24 h30
        subst h30
        dsimp only [Sum.elim_inl] at h29
        have h29 := lt2 h29
        refine g_iload_n hX d_O_reason_191 0 rfl ?_
        cases h29
        exact g_ireturn hX hR d_O_reason_192
      refine g_sub (lv2 := [(0, .ref (adr Y 0)), (1, .int x1), (2, .int vq7), (3, .int 0)]) [2, 3, 1, 0] rfl ?_
      refine g_loop (fun s => O_reason_b2 x1 s.1 s.2.1 s.2.2) (fun s => Gd X Y 0 s.2.2 [(0, .ref (adr Y 0)), (1, .int x1), (2, .int s.1), (3, .int s.2.1)] 60 []) h28x ?_ fuel (vq7, 0, σ16) h28
      intro s y27 h27 h25 h26
      obtain ⟨vq20, vq21, σ22⟩ := s
      have h27 : O_reason_b2 x1 vq20 vq21 σ22 = some y27 := h27
      unfold O_reason_b2 at h27
      show Gd X Y 0 σ22 [(0, .ref (adr Y 0)), (1, .int x1), (2, .int vq20), (3, .int vq21)] 60 []
      refine g_iload_n hX d_O_reason_60 3 rfl ?_
      refine g_iload_n hX d_O_reason_61 1 rfl ?_
      refine g_icmp_ge hX 191 d_O_reason_62 (by decide) h27 (fun h31 => ?_) (fun h32 => ?_)
      · refine g_sub (lv2 := [(2, .int vq20)]) [2] rfl ?_
        cases h31
        exact KX29 vq20 σ22 (h26 (.inl (vq20, σ22)) rfl).symm
      · refine g_iload_n hX d_O_reason_65 2 rfl ?_
        refine g_iload_n hX d_O_reason_66 3 rfl ?_
        refine g_ishr hX d_O_reason_67 ?_
        refine g_iconst hX 1 d_O_reason_68 (by decide) ?_
        refine g_iand hX d_O_reason_69 ?_
        obtain ⟨h35x, h33, h34⟩ := obind h32
        have KJ34 : ∀ (vq100 : Int32) (σ101 : Mem) , h35x = .inl (vq100, σ101) → Gd X Y 0 σ101 [(0, .ref (adr Y 0)), (1, .int x1), (2, .int vq100), (3, .int vq21)] 185 [] := by
          intro vq100 σ101 h35
          subst h35
          dsimp only [Sum.elim_inl] at h34
          have h34 := lt2 h34
          refine g_iinc hX (fun vq104 => [(3, .int vq104), (0, .ref (adr Y 0)), (1, .int x1), (2, .int vq100)]) d_O_reason_185 3 rfl rfl (by decide) (fun _ => rfl) h34 (fun vq104 h105 => ?_)
          refine g_goto hX 60 d_O_reason_188 (by decide) ?_
          refine g_sub (lv2 := [(0, .ref (adr Y 0)), (1, .int x1), (2, .int vq100), (3, .int vq104)]) [1, 2, 3, 0] rfl ?_
          cases h105
          exact h25 (vq100, vq104, σ101) rfl
        refine g_if_ne hX 76 d_O_reason_70 (by decide) h33 (fun h36 => ?_) (fun h37 => ?_)
        · refine g_aload_n hX d_O_reason_76 0 rfl ?_
          refine g_getR hX iw_0 sh_0 rfl fl_O_55 d_O_reason_77 ?_
          refine g_aload_n hX d_O_reason_80 0 rfl ?_
          refine g_getR hX iw_0 sh_0 rfl fl_O_52 d_O_reason_81 ?_
          obtain ⟨σ38, h39, h40⟩ := obind h36
          refine g_callV hX [.ref (adr Y 21)] [] mv_O_100 (c_T_draw X.2.1 Y 32 21 isT_32 isT_21 σ22 _ h39) (by decide) iw_32 sh_32 rfl rfl rfl (Nat.le_of_ble_eq_true rfl) d_O_reason_84 (fun h41 => ?_)
          show Gd X Y 0 σ38 [(0, .ref (adr Y 0)), (1, .int x1), (2, .int vq20), (3, .int vq21)] 87 []
          refine g_iconst hX 1 d_O_reason_87 (by decide) ?_
          refine g_istoreV hX [(4, .int 1), (0, .ref (adr Y 0)), (1, .int x1), (2, .int vq20), (3, .int vq21)] d_O_reason_88 (by decide) rfl ?_
          refine g_iload_n hX d_O_reason_90 4 rfl ?_
          refine g_iconst hX 1 d_O_reason_91 (by decide) ?_
          refine g_iadd hX d_O_reason_92 ?_
          refine g_istore hX (fun vq42 => [(5, .int vq42), (4, .int 1), (0, .ref (adr Y 0)), (1, .int x1), (2, .int vq20), (3, .int vq21)]) d_O_reason_93 (by decide) (fun _ => rfl) h40 (fun vq42 h43 => ?_)
          obtain ⟨⟨vq47, σ48⟩, h52, h53⟩ := obind h43
          have h53 := lt2 h53
          have KX53 : Gd X Y 0 σ48 [(0, .ref (adr Y 0)), (1, .int x1), (2, .int vq20), (3, .int vq21), (4, .int vq47)] 145 [] := by
            refine g_iload hX d_O_reason_145 4 rfl ?_
            refine g_if_ne hX 161 d_O_reason_147 (by decide) h53 (fun h89 => ?_) (fun h90 => ?_)
            · refine g_aload_n hX d_O_reason_161 0 rfl ?_
              refine g_getR hX iw_0 sh_0 rfl fl_O_52 d_O_reason_162 ?_
              refine g_aload_n hX d_O_reason_165 0 rfl ?_
              refine g_getR hX iw_0 sh_0 rfl fl_O_13 d_O_reason_166 ?_
              refine g_iload_n hX d_O_reason_169 3 rfl ?_
              refine g_iaload hX iw_1 sh_1 d_O_reason_170 h89 (fun vq91 h92 => ?_)
              obtain ⟨⟨vq93, σ94⟩, h95, h96⟩ := obind h92
              have h96 := lt2 h96
              refine g_callV hX [.int vq91] [] mv_O_97 (c_T_reduce X.2.1 Y 21 vq91 isT_21 σ48 _ h95) (by decide) iw_21 sh_21 rfl rfl rfl (Nat.le_of_ble_eq_true rfl) d_O_reason_171 (fun h97 => ?_)
              show Gd X Y 0 σ94 [(0, .ref (adr Y 0)), (1, .int x1), (2, .int vq20), (3, .int vq21), (4, .int vq47)] 174 [.int vq93]
              refine g_if_ne hX 185 d_O_reason_174 (by decide) h96 (fun h98 => ?_) (fun h99 => ?_)
              · refine g_sub (lv2 := [(0, .ref (adr Y 0)), (1, .int x1), (2, .int vq20), (3, .int vq21)]) [0, 1, 2, 3] rfl ?_
                cases h98
                exact KJ34 _ _ rfl
              · refine g_iload_n hX d_O_reason_177 2 rfl ?_
                refine g_iconst hX 2 d_O_reason_178 (by decide) ?_
                refine g_iload_n hX d_O_reason_179 3 rfl ?_
                refine g_ishl hX d_O_reason_180 ?_
                refine g_iconst hX 1 d_O_reason_181 (by decide) ?_
                refine g_isub hX d_O_reason_182 ?_
                refine g_iand hX d_O_reason_183 ?_
                cases h99
                dsimp only [Sum.elim_inr] at h34
                cases h34
                have h30 := h26 (.inr ((vq20 &&& ((2 <<< (vq21 &&& 31)) - 1)), σ94)) rfl
                subst h30
                dsimp only [Sum.elim_inr] at h29
                cases h29
                exact g_ireturn hX hR d_O_reason_184
            · refine g_iload_n hX d_O_reason_150 2 rfl ?_
              refine g_iconst hX 1 d_O_reason_151 (by decide) ?_
              refine g_iload_n hX d_O_reason_152 3 rfl ?_
              refine g_ishl hX d_O_reason_153 ?_
              refine g_iconst hX (-1) d_O_reason_154 (by decide) ?_
              refine g_ixor hX d_O_reason_155 ?_
              refine g_iand hX d_O_reason_156 ?_
              refine g_istore_n hX (fun vq102 => [(2, .int vq102), (0, .ref (adr Y 0)), (1, .int x1), (3, .int vq21), (4, .int vq47)]) d_O_reason_157 (by decide) (fun _ => rfl) h90 (fun vq102 h103 => ?_)
              refine g_goto hX 185 d_O_reason_158 (by decide) ?_
              refine g_sub (lv2 := [(0, .ref (adr Y 0)), (1, .int x1), (2, .int vq102), (3, .int vq21)]) [1, 2, 0, 3] rfl ?_
              cases h103
              exact KJ34 _ _ rfl
          refine g_sub (lv2 := [(0, .ref (adr Y 0)), (1, .int x1), (2, .int vq20), (3, .int vq21), (4, .int 1), (5, .int vq42)]) [2, 3, 4, 5, 1, 0] rfl ?_
          refine g_loop (fun s => O_reason_b1 x1 vq20 s.1 s.2.1 s.2.2) (fun s => Gd X Y 0 s.2.2 [(0, .ref (adr Y 0)), (1, .int x1), (2, .int vq20), (3, .int vq21), (4, .int s.1), (5, .int s.2.1)] 95 []) (vq47, σ48) ?_ fuel (1, vq42, σ38) h52
          intro s y51 h51 h49 h50
          obtain ⟨vq44, vq45, σ46⟩ := s
          have h51 : O_reason_b1 x1 vq20 vq44 vq45 σ46 = some y51 := h51
          unfold O_reason_b1 at h51
          show Gd X Y 0 σ46 [(0, .ref (adr Y 0)), (1, .int x1), (2, .int vq20), (3, .int vq21), (4, .int vq44), (5, .int vq45)] 95 []
          refine g_iload hX d_O_reason_95 5 rfl ?_
          refine g_iload_n hX d_O_reason_97 1 rfl ?_
          obtain ⟨bq55, h56, h57⟩ := ltex h51
          have Kbq55t : bq55 = true → Gd X Y 0 σ46 [(0, .ref (adr Y 0)), (1, .int x1), (2, .int vq20), (3, .int vq21), (4, .int vq44), (5, .int vq45)] 106 [] := by
            intro h88
            have h62 := (if_pos h88).symm.trans h57
            refine g_iload_n hX d_O_reason_106 2 rfl ?_
            refine g_iload hX d_O_reason_107 5 rfl ?_
            refine g_ishr hX d_O_reason_109 ?_
            refine g_iconst hX 1 d_O_reason_110 (by decide) ?_
            refine g_iand hX d_O_reason_111 ?_
            obtain ⟨⟨bq64, σ65⟩, h66, h67⟩ := obind h62
            have h67 := lt2 h67
            obtain ⟨vq84, h79, h80⟩ := ltex h67
            have KJ80 : okR (some .boolean) (some (.int vq84)) → Gd X Y 0 σ65 [(0, .ref (adr Y 0)), (1, .int x1), (2, .int vq20), (3, .int vq21), (5, .int vq45)] 137 [.int vq84] := by
              intro hbvq84
              refine g_istoreV hX [(4, .int vq84), (0, .ref (adr Y 0)), (1, .int x1), (2, .int vq20), (3, .int vq21), (5, .int vq45)] d_O_reason_137 (by decide) rfl ?_
              refine g_iinc hX (fun vq86 => [(5, .int vq86), (4, .int vq84), (0, .ref (adr Y 0)), (1, .int x1), (2, .int vq20), (3, .int vq21)]) d_O_reason_139 5 rfl rfl (by decide) (fun _ => rfl) h80 (fun vq86 h87 => ?_)
              refine g_goto hX 95 d_O_reason_142 (by decide) ?_
              refine g_sub (lv2 := [(0, .ref (adr Y 0)), (1, .int x1), (2, .int vq20), (3, .int vq21), (4, .int vq84), (5, .int vq86)]) [2, 3, 4, 5, 1, 0] rfl ?_
              cases h87
              exact h49 (vq84, vq86, σ65) rfl
            have Kbq64t : bq64 = true → Gd X Y 0 σ65 [(0, .ref (adr Y 0)), (1, .int x1), (2, .int vq20), (3, .int vq21), (4, .int vq44), (5, .int vq45)] 132 [] := by
              intro h85
              have h82 := (if_pos h85).symm.trans h79
              refine g_iconst hX 1 d_O_reason_132 (by decide) ?_
              refine g_goto hX 137 d_O_reason_133 (by decide) ?_
              refine g_sub (lv2 := [(0, .ref (adr Y 0)), (1, .int x1), (2, .int vq20), (3, .int vq21), (5, .int vq45)]) [0, 1, 2, 3, 5] rfl ?_
              cases h82
              exact KJ80 okB1
            have Kbq64f : ¬ bq64 = true → Gd X Y 0 σ65 [(0, .ref (adr Y 0)), (1, .int x1), (2, .int vq20), (3, .int vq21), (4, .int vq44), (5, .int vq45)] 136 [] := by
              intro h85
              have h83 := (if_neg h85).symm.trans h79
              refine g_iconst hX 0 d_O_reason_136 (by decide) ?_
              refine g_sub (lv2 := [(0, .ref (adr Y 0)), (1, .int x1), (2, .int vq20), (3, .int vq21), (5, .int vq45)]) [0, 1, 2, 3, 5] rfl ?_
              cases h83
              exact KJ80 okB0
            refine g_if_eq hX 132 d_O_reason_112 (by decide) h66 (fun h68 => ?_) (fun h69 => ?_)
            · cases h68
              exact Kbq64t rfl
            · refine g_aload_n hX d_O_reason_115 0 rfl ?_
              refine g_getR hX iw_0 sh_0 rfl fl_O_55 d_O_reason_116 ?_
              refine g_aload_n hX d_O_reason_119 0 rfl ?_
              refine g_getR hX iw_0 sh_0 rfl fl_O_13 d_O_reason_120 ?_
              refine g_iload hX d_O_reason_123 5 rfl ?_
              refine g_iaload hX iw_1 sh_1 d_O_reason_125 h69 (fun vq70 h71 => ?_)
              obtain ⟨⟨vq72, σ73⟩, h74, h75⟩ := obind h71
              have h75 := lt2 h75
              refine g_callV hX [.int vq70] [] mv_O_97 (c_T_reduce X.2.1 Y 32 vq70 isT_32 σ46 _ h74) (by decide) iw_32 sh_32 rfl rfl rfl (Nat.le_of_ble_eq_true rfl) d_O_reason_126 (fun h76 => ?_)
              show Gd X Y 0 σ73 [(0, .ref (adr Y 0)), (1, .int x1), (2, .int vq20), (3, .int vq21), (4, .int vq44), (5, .int vq45)] 129 [.int vq72]
              refine g_if_eq hX 136 d_O_reason_129 (by decide) h75 (fun h77 => ?_) (fun h78 => ?_)
              · cases h77
                exact Kbq64f (by decide)
              · cases h78
                exact Kbq64t rfl
          have Kbq55f : ¬ bq55 = true → Gd X Y 0 σ46 [(0, .ref (adr Y 0)), (1, .int x1), (2, .int vq20), (3, .int vq21), (4, .int vq44), (5, .int vq45)] 145 [] := by
            intro h88
            have h63 := (if_neg h88).symm.trans h57
            refine g_sub (lv2 := [(0, .ref (adr Y 0)), (1, .int x1), (2, .int vq20), (3, .int vq21), (4, .int vq44)]) [0, 1, 2, 3, 4] rfl ?_
            cases h63
            have h54 := h50 (vq44, σ46) rfl
            cases h54
            exact KX53
          refine g_icmp_ge hX 145 d_O_reason_98 (by decide) h56 (fun h58 => ?_) (fun h59 => ?_)
          · cases h58
            exact Kbq55f (by decide)
          · refine g_iload hX d_O_reason_101 4 rfl ?_
            refine g_if_eq hX 145 d_O_reason_103 (by decide) h59 (fun h60 => ?_) (fun h61 => ?_)
            · cases h60
              exact Kbq55f (by decide)
            · cases h61
              exact Kbq55t rfl
        · refine g_goto hX 185 d_O_reason_73 (by decide) ?_
          refine g_sub (lv2 := [(0, .ref (adr Y 0)), (1, .int x1), (2, .int vq20), (3, .int vq21)]) [0, 1, 2, 3] rfl ?_
          cases h37
          exact KJ34 _ _ rfl
    · refine g_bipush hX (-3) d_O_reason_19 (by decide) ?_
      cases h6
      exact g_ireturn hX hR d_O_reason_21
  · refine g_bipush hX (-2) d_O_reason_8 (by decide) ?_
    cases h3
    exact g_ireturn hX hR d_O_reason_10
noncomputable def O_found (x1 : Int32) (σ : Mem) : Int32 × Mem := lt (mput σ 0 6 x1) (fun σ1 => (((-10) - x1), σ1))
set_option maxHeartbeats 4000000 in
set_option maxRecDepth 100000 in
theorem c_O_found (l : Launch) (Y : Wx) (x1 : Int32)  (σ : Mem) (o : Int32 × Mem) (hf : O_found x1 σ = o) : Ct l Y 0 y_O_found b_O_found 2 (some .int) 0 [.ref (adr Y 0), .int x1] σ (some (.int o.1)) o.2 := by
  unfold O_found at hf
  refine ct_of (by decide) (Nat.le_of_ble_eq_true rfl) rfl (fun X hXl hX hR => ?_)
  subst hXl
  have hX : Fx X Y 0 b_O_found 2 R_O 0 := hX
  refine g_aload_n hX d_O_found_0 0 rfl ?_
  refine g_iload_n hX d_O_found_1 1 rfl ?_
  refine g_putI hX iw_0 sh_0 rfl fl_O_29 d_O_found_2 hf (fun σ1 h2 => ?_)
  refine g_bipush hX (-10) d_O_found_5 (by decide) ?_
  refine g_iload_n hX d_O_found_7 1 rfl ?_
  refine g_isub hX d_O_found_8 ?_
  cases h2
  exact g_ireturn hX hR d_O_found_9
noncomputable def O_isSheet (x0 : Int32) : Int32 := lt (if x0 < 0 then false else if 4 ≤ x0 then false else true : Bool) (fun bq1 => lt (if bq1 = true then 1 else 0 : Int32) (fun vq13 => vq13))
set_option maxHeartbeats 4000000 in
set_option maxRecDepth 100000 in
theorem c_O_isSheet (l : Launch) (Y : Wx) (x0 : Int32)  (σ : Mem) (o : Int32) (hf : O_isSheet x0 = o) : Ct l Y 0 y_O_isSheet b_O_isSheet 1 (some .boolean) 0 [.int x0] σ (some (.int o)) σ := by
  unfold O_isSheet at hf
  refine ct_of (by decide) (Nat.le_of_ble_eq_true rfl) rfl (fun X hXl hX hR => ?_)
  subst hXl
  have hX : Fx X Y 0 b_O_isSheet 1 R_O 0 := hX
  refine g_iload_n hX d_O_isSheet_0 0 rfl ?_
  obtain ⟨bq1, h2, h3⟩ := ltex hf
  obtain ⟨vq13, h8, h9⟩ := ltex h3
  have KJ9 : okR (some .boolean) (some (.int vq13)) → Gd X Y 0 σ [] 14 [.int vq13] := by
    intro hbvq13
    cases h9
    exact g_zreturn hX hR hbvq13 d_O_isSheet_14
  have Kbq1t : bq1 = true → Gd X Y 0 σ [(0, .int x0)] 9 [] := by
    intro h14
    have h11 := (if_pos h14).symm.trans h8
    refine g_iconst hX 1 d_O_isSheet_9 (by decide) ?_
    refine g_goto hX 14 d_O_isSheet_10 (by decide) ?_
    refine g_sub (lv2 := []) [] rfl ?_
    cases h11
    exact KJ9 okB1
  have Kbq1f : ¬ bq1 = true → Gd X Y 0 σ [(0, .int x0)] 13 [] := by
    intro h14
    have h12 := (if_neg h14).symm.trans h8
    refine g_iconst hX 0 d_O_isSheet_13 (by decide) ?_
    refine g_sub (lv2 := []) [] rfl ?_
    cases h12
    exact KJ9 okB0
  refine g_if_lt hX 13 d_O_isSheet_1 (by decide) h2 (fun h4 => ?_) (fun h5 => ?_)
  · cases h4
    exact Kbq1f (by decide)
  · refine g_iload_n hX d_O_isSheet_4 0 rfl ?_
    refine g_iconst hX 4 d_O_isSheet_5 (by decide) ?_
    refine g_icmp_ge hX 13 d_O_isSheet_6 (by decide) h5 (fun h6 => ?_) (fun h7 => ?_)
    · cases h6
      exact Kbq1f (by decide)
    · cases h7
      exact Kbq1t rfl
noncomputable def O_read_b1 (x1 : Int32) (vq10 : Int32) (vq14 : Int32) (σ15 : Mem) : Option ((Int32 × Mem) ⊕ (Int32 × Mem)) := ((if vq10 ≤ vq14 then some (false, σ15) else (S_item x1 vq14 σ15).bind (fun vq30 => (O_group vq30 σ15).bind (fun q => lt q.1 (fun vq34 => lt q.2 (fun σ35 => if vq34 < 0 then some (false, σ35) else some (true, σ35))))) : Option (Bool × Mem))).bind (fun q => lt q.1 (fun bq24 => lt q.2 (fun σ25 => if bq24 = true then lt (vq14 + 1) (fun vq43 => some (.inl (vq43, σ25))) else some (.inr (vq14, σ25)))))
noncomputable def O_read (x1 : Int32) (σ : Mem) : Option (Int32 × Mem) := if (O_isSheet x1) = 0 then some ((-2), σ) else (S_isLost x1 σ).bind (fun vq4 => if vq4 = 0 then (S_sizeOf x1 σ).bind (fun vq10 => (lp (fun s => O_read_b1 x1 vq10 s.1 s.2) fuel (0, σ)).bind (fun q => lt q.1 (fun vq16 => lt q.2 (fun σ17 => some (vq16, σ17))))) else lt (O_found 1 σ) (fun q => lt q.1 (fun vq46 => lt q.2 (fun σ47 => some (vq46, σ47)))))
set_option maxHeartbeats 4000000 in
set_option maxRecDepth 100000 in
theorem c_O_read (l : Launch) (Y : Wx) (x1 : Int32)  (σ : Mem) (o : Int32 × Mem) (hf : O_read x1 σ = some o) : Ct l Y 0 y_O_read b_O_read 4 (some .int) 30 [.ref (adr Y 0), .int x1] σ (some (.int o.1)) o.2 := by
  unfold O_read at hf
  refine ct_of (by decide) (Nat.le_of_ble_eq_true rfl) rfl (fun X hXl hX hR => ?_)
  subst hXl
  have hX : Fx X Y 0 b_O_read 4 R_O 30 := hX
  refine g_iload_n hX d_O_read_0 1 rfl ?_
  refine g_callS hX [.int x1] [] mv_O_104 (c_O_isSheet X.2.1 Y x1 σ _ rfl) (by decide) rfl rfl (Nat.le_of_ble_eq_true rfl) d_O_read_1 (fun h1 => ?_)
  show Gd X Y 0 σ [(0, .ref (adr Y 0)), (1, .int x1)] 4 [.int (O_isSheet x1)]
  refine g_if_ne hX 10 d_O_read_4 (by decide) hf (fun h2 => ?_) (fun h3 => ?_)
  · refine g_aload_n hX d_O_read_10 0 rfl ?_
    refine g_getR hX iw_0 sh_0 rfl fl_O_35 d_O_read_11 ?_
    refine g_iload_n hX d_O_read_14 1 rfl ?_
    obtain ⟨vq4, h5, h6⟩ := obind h2
    refine g_callV hX [.int x1] [] mv_O_107 (c_S_isLost X.2.1 Y x1 σ _ h5) (by decide) iw_6 sh_6 rfl rfl rfl (Nat.le_of_ble_eq_true rfl) d_O_read_15 (fun h7 => ?_)
    show Gd X Y 0 σ [(0, .ref (adr Y 0)), (1, .int x1)] 18 [.int vq4]
    refine g_if_eq hX 27 d_O_read_18 (by decide) h6 (fun h8 => ?_) (fun h9 => ?_)
    · refine g_iconst hX 0 d_O_read_27 (by decide) ?_
      refine g_istore_nV hX [(2, .int 0), (0, .ref (adr Y 0)), (1, .int x1)] d_O_read_28 (by decide) rfl ?_
      refine g_aload_n hX d_O_read_29 1 rfl ?_
      refine g_getR hX iw_0 sh_0 rfl fl_O_35 d_O_read_30 ?_
      refine g_iload_n hX d_O_read_33 2 rfl ?_
      obtain ⟨vq10, h11, h12⟩ := obind h8
      refine g_callV hX [.int x1] [] mv_O_113 (c_S_sizeOf X.2.1 Y x1 σ _ h11) (by decide) iw_6 sh_6 rfl rfl rfl (Nat.le_of_ble_eq_true rfl) d_O_read_34 (fun h13 => ?_)
      show Gd X Y 0 σ [(2, .int 0), (0, .ref (adr Y 0)), (1, .int x1)] 37 [.int vq10]
      refine g_istore_nV hX [(3, .int vq10), (2, .int 0), (0, .ref (adr Y 0)), (1, .int x1)] d_O_read_37 (by decide) rfl ?_
      obtain ⟨⟨vq16, σ17⟩, h21, h22⟩ := obind h12
      have h22 := lt2 h22
      have KX22 : Gd X Y 0 σ17 [(2, .int vq16)] 65 [] := by
        refine g_iload_n hX d_O_read_65 0 rfl ?_
        cases h22
        exact g_ireturn hX hR d_O_read_66
      refine g_sub (lv2 := [(0, .ref (adr Y 0)), (1, .int x1), (2, .int 0), (3, .int vq10)]) [2, 3, 1, 0] rfl ?_
      refine g_loop (fun s => O_read_b1 x1 vq10 s.1 s.2) (fun s => Gd X Y 0 s.2 [(0, .ref (adr Y 0)), (1, .int x1), (2, .int s.1), (3, .int vq10)] 38 []) (vq16, σ17) ?_ fuel (0, σ) h21
      intro s y20 h20 h18 h19
      obtain ⟨vq14, σ15⟩ := s
      have h20 : O_read_b1 x1 vq10 vq14 σ15 = some y20 := h20
      unfold O_read_b1 at h20
      show Gd X Y 0 σ15 [(0, .ref (adr Y 0)), (1, .int x1), (2, .int vq14), (3, .int vq10)] 38 []
      refine g_iload_n hX d_O_read_38 2 rfl ?_
      refine g_iload_n hX d_O_read_39 3 rfl ?_
      obtain ⟨⟨bq24, σ25⟩, h26, h27⟩ := obind h20
      have h27 := lt2 h27
      have Kbq24t : bq24 = true → Gd X Y 0 σ25 [(0, .ref (adr Y 0)), (1, .int x1), (2, .int vq14), (3, .int vq10)] 59 [] := by
        intro h45
        have h41 := (if_pos h45).symm.trans h27
        refine g_iinc hX (fun vq43 => [(2, .int vq43), (0, .ref (adr Y 0)), (1, .int x1), (3, .int vq10)]) d_O_read_59 2 rfl rfl (by decide) (fun _ => rfl) h41 (fun vq43 h44 => ?_)
        refine g_goto hX 38 d_O_read_62 (by decide) ?_
        refine g_sub (lv2 := [(0, .ref (adr Y 0)), (1, .int x1), (2, .int vq43), (3, .int vq10)]) [1, 2, 0, 3] rfl ?_
        cases h44
        exact h18 (vq43, σ25) rfl
      have Kbq24f : ¬ bq24 = true → Gd X Y 0 σ25 [(0, .ref (adr Y 0)), (1, .int x1), (2, .int vq14), (3, .int vq10)] 65 [] := by
        intro h45
        have h42 := (if_neg h45).symm.trans h27
        refine g_sub (lv2 := [(2, .int vq14)]) [2] rfl ?_
        cases h42
        have h23 := h19 (vq14, σ25) rfl
        cases h23
        exact KX22
      refine g_icmp_ge hX 65 d_O_read_40 (by decide) h26 (fun h28 => ?_) (fun h29 => ?_)
      · cases h28
        exact Kbq24f (by decide)
      · refine g_aload_n hX d_O_read_43 0 rfl ?_
        refine g_aload_n hX d_O_read_44 0 rfl ?_
        refine g_getR hX iw_0 sh_0 rfl fl_O_35 d_O_read_45 ?_
        refine g_iload_n hX d_O_read_48 1 rfl ?_
        refine g_iload_n hX d_O_read_49 2 rfl ?_
        obtain ⟨vq30, h31, h32⟩ := obind h29
        refine g_callV hX [.int x1, .int vq14] [.ref (adr Y 0)] mv_O_116 (c_S_item X.2.1 Y x1 vq14 σ15 _ h31) (by decide) iw_6 sh_6 rfl rfl rfl (Nat.le_of_ble_eq_true rfl) d_O_read_50 (fun h33 => ?_)
        show Gd X Y 0 σ15 [(0, .ref (adr Y 0)), (1, .int x1), (2, .int vq14), (3, .int vq10)] 53 [.int vq30, .ref (adr Y 0)]
        obtain ⟨⟨vq34, σ35⟩, h36, h37⟩ := obind h32
        have h37 := lt2 h37
        refine g_callV hX [.int vq30] [] mv_O_120 (c_O_group X.2.1 Y vq30 σ15 _ h36) (by decide) iw_0 sh_0 rfl rfl rfl (Nat.le_of_ble_eq_true rfl) d_O_read_53 (fun h38 => ?_)
        show Gd X Y 0 σ35 [(0, .ref (adr Y 0)), (1, .int x1), (2, .int vq14), (3, .int vq10)] 56 [.int vq34]
        refine g_if_lt hX 65 d_O_read_56 (by decide) h37 (fun h39 => ?_) (fun h40 => ?_)
        · cases h39
          exact Kbq24f (by decide)
        · cases h40
          exact Kbq24t rfl
    · refine g_aload_n hX d_O_read_21 0 rfl ?_
      refine g_iconst hX 1 d_O_read_22 (by decide) ?_
      obtain ⟨⟨vq46, σ47⟩, h48, h49⟩ := ltex h9
      have h49 := lt2 h49
      refine g_callV hX [.int 1] [] mv_O_110 (c_O_found X.2.1 Y 1 σ _ h48) (by decide) iw_0 sh_0 rfl rfl rfl (Nat.le_of_ble_eq_true rfl) d_O_read_23 (fun h50 => ?_)
      show Gd X Y 0 σ47 [(0, .ref (adr Y 0)), (1, .int x1)] 26 [.int vq46]
      cases h49
      exact g_ireturn hX hR d_O_read_26
  · refine g_bipush hX (-2) d_O_read_7 (by decide) ?_
    cases h3
    exact g_ireturn hX hR d_O_read_9
noncomputable def O_many  (σ : Mem) : Option (Int64) := (T_rowCount 10 σ).bind (fun vq1 => some vq1)
set_option maxHeartbeats 4000000 in
set_option maxRecDepth 100000 in
theorem c_O_many (l : Launch) (Y : Wx)   (σ : Mem) (o : Int64) (hf : O_many σ = some o) : Ct l Y 0 y_O_many b_O_many 1 (some .long) 3 [.ref (adr Y 0)] σ (some (.long o)) σ := by
  unfold O_many at hf
  refine ct_of (by decide) (Nat.le_of_ble_eq_true rfl) rfl (fun X hXl hX hR => ?_)
  subst hXl
  have hX : Fx X Y 0 b_O_many 1 R_O 3 := hX
  refine g_aload_n hX d_O_many_0 0 rfl ?_
  refine g_getR hX iw_0 sh_0 rfl fl_O_42 d_O_many_1 ?_
  obtain ⟨vq1, h2, h3⟩ := obind hf
  refine g_callV hX [] [] mv_O_123 (c_T_rowCount X.2.1 Y 10 isT_10 σ _ h2) (by decide) iw_10 sh_10 rfl rfl rfl (Nat.le_of_ble_eq_true rfl) d_O_many_4 (fun h4 => ?_)
  show Gd X Y 0 σ [(0, .ref (adr Y 0))] 7 [.long vq1]
  cases h3
  exact g_lreturn hX hR d_O_many_7
noncomputable def O_tree (x1 : Int32) (σ : Mem) : Option (Int32) := lt (if x1 < (-1) then true else if x1 < 40 then false else true : Bool) (fun bq1 => if bq1 = true then some (-2) else if x1 = (-1) then some (σ 0 10) else ((if (σ 0 10) ≤ x1 then some (-1) else (rd σ 3 x1).bind (fun vq18 => some vq18) : Option (Int32))).bind (fun vq17 => some vq17))
set_option maxHeartbeats 4000000 in
set_option maxRecDepth 100000 in
theorem c_O_tree (l : Launch) (Y : Wx) (x1 : Int32)  (σ : Mem) (o : Int32) (hf : O_tree x1 σ = some o) : Ct l Y 0 y_O_tree b_O_tree 2 (some .int) 0 [.ref (adr Y 0), .int x1] σ (some (.int o)) σ := by
  unfold O_tree at hf
  refine ct_of (by decide) (Nat.le_of_ble_eq_true rfl) rfl (fun X hXl hX hR => ?_)
  subst hXl
  have hX : Fx X Y 0 b_O_tree 2 R_O 0 := hX
  refine g_iload_n hX d_O_tree_0 1 rfl ?_
  refine g_iconst hX (-1) d_O_tree_1 (by decide) ?_
  obtain ⟨bq1, h2, h3⟩ := ltex hf
  have Kbq1t : bq1 = true → Gd X Y 0 σ [(0, .ref (adr Y 0)), (1, .int x1)] 11 [] := by
    intro h20
    have h8 := (if_pos h20).symm.trans h3
    refine g_bipush hX (-2) d_O_tree_11 (by decide) ?_
    cases h8
    exact g_ireturn hX hR d_O_tree_13
  have Kbq1f : ¬ bq1 = true → Gd X Y 0 σ [(0, .ref (adr Y 0)), (1, .int x1)] 14 [] := by
    intro h20
    have h9 := (if_neg h20).symm.trans h3
    refine g_iload_n hX d_O_tree_14 1 rfl ?_
    refine g_iconst hX (-1) d_O_tree_15 (by decide) ?_
    refine g_icmp_ne hX 24 d_O_tree_16 (by decide) h9 (fun h10 => ?_) (fun h11 => ?_)
    · refine g_iload_n hX d_O_tree_24 1 rfl ?_
      refine g_aload_n hX d_O_tree_25 0 rfl ?_
      refine g_getI hX iw_0 sh_0 rfl fl_O_49.f d_O_tree_26 ?_
      obtain ⟨vq17, h12, h13⟩ := obind h10
      have KJ13 : Gd X Y 0 σ [] 42 [.int vq17] := by
        cases h13
        exact g_ireturn hX hR d_O_tree_42
      refine g_icmp_ge hX 41 d_O_tree_29 (by decide) h12 (fun h15 => ?_) (fun h16 => ?_)
      · refine g_iconst hX (-1) d_O_tree_41 (by decide) ?_
        refine g_sub (lv2 := []) [] rfl ?_
        cases h15
        exact KJ13
      · refine g_aload_n hX d_O_tree_32 0 rfl ?_
        refine g_getR hX iw_0 sh_0 rfl fl_O_46 d_O_tree_33 ?_
        refine g_iload_n hX d_O_tree_36 1 rfl ?_
        refine g_iaload hX iw_3 sh_3 d_O_tree_37 h16 (fun vq18 h19 => ?_)
        refine g_goto hX 42 d_O_tree_38 (by decide) ?_
        refine g_sub (lv2 := []) [] rfl ?_
        cases h19
        exact KJ13
    · refine g_aload_n hX d_O_tree_19 0 rfl ?_
      refine g_getI hX iw_0 sh_0 rfl fl_O_49.f d_O_tree_20 ?_
      cases h11
      exact g_ireturn hX hR d_O_tree_23
  refine g_icmp_lt hX 11 d_O_tree_2 (by decide) h2 (fun h4 => ?_) (fun h5 => ?_)
  · cases h4
    exact Kbq1t rfl
  · refine g_iload_n hX d_O_tree_5 1 rfl ?_
    refine g_bipush hX 40 d_O_tree_6 (by decide) ?_
    refine g_icmp_lt hX 14 d_O_tree_8 (by decide) h5 (fun h6 => ?_) (fun h7 => ?_)
    · cases h6
      exact Kbq1f (by decide)
    · cases h7
      exact Kbq1t rfl
noncomputable def O_node (x1 : Int32) (x2 : Int32) (σ : Mem) : Option (Int32) := lt (if x1 < 0 then true else if 7 ≤ x1 then true else if x2 < 0 then true else if x2 ≤ 2 then false else true : Bool) (fun bq1 => if bq1 = true then some (-2) else if x1 < (T_nodeCount 10 σ) then if x2 = 0 then (T_isTurning 10 x1 σ).bind (fun vq33 => lt (if vq33 = 0 then 0 else 1 : Int32) (fun vq42 => some vq42)) else ((if x2 = 1 then (T_partCount 10 x1 σ).bind (fun vq29 => some vq29) else (T_thingsOf 10 x1 σ).bind (fun vq24 => some vq24) : Option (Int32))).bind (fun vq28 => some vq28) else some (-1))
set_option maxHeartbeats 4000000 in
set_option maxRecDepth 100000 in
theorem c_O_node (l : Launch) (Y : Wx) (x1 : Int32) (x2 : Int32)  (σ : Mem) (o : Int32) (hf : O_node x1 x2 σ = some o) : Ct l Y 0 y_O_node b_O_node 3 (some .int) 1 [.ref (adr Y 0), .int x1, .int x2] σ (some (.int o)) σ := by
  unfold O_node at hf
  refine ct_of (by decide) (Nat.le_of_ble_eq_true rfl) rfl (fun X hXl hX hR => ?_)
  subst hXl
  have hX : Fx X Y 0 b_O_node 3 R_O 1 := hX
  refine g_iload_n hX d_O_node_0 1 rfl ?_
  obtain ⟨bq1, h2, h3⟩ := ltex hf
  have Kbq1t : bq1 = true → Gd X Y 0 σ [(0, .ref (adr Y 0)), (1, .int x1), (2, .int x2)] 19 [] := by
    intro h43
    have h12 := (if_pos h43).symm.trans h3
    refine g_bipush hX (-2) d_O_node_19 (by decide) ?_
    cases h12
    exact g_ireturn hX hR d_O_node_21
  have Kbq1f : ¬ bq1 = true → Gd X Y 0 σ [(0, .ref (adr Y 0)), (1, .int x1), (2, .int x2)] 22 [] := by
    intro h43
    have h13 := (if_neg h43).symm.trans h3
    refine g_iload_n hX d_O_node_22 1 rfl ?_
    refine g_aload_n hX d_O_node_23 0 rfl ?_
    refine g_getR hX iw_0 sh_0 rfl fl_O_42 d_O_node_24 ?_
    refine g_callV hX [] [.int x1] mv_O_127 (c_T_nodeCount X.2.1 Y 10 isT_10 σ _ rfl) (by decide) iw_10 sh_10 rfl rfl rfl (Nat.le_of_ble_eq_true rfl) d_O_node_27 (fun h14 => ?_)
    show Gd X Y 0 σ [(0, .ref (adr Y 0)), (1, .int x1), (2, .int x2)] 30 [.int (T_nodeCount 10 σ), .int x1]
    refine g_icmp_lt hX 35 d_O_node_30 (by decide) h13 (fun h15 => ?_) (fun h16 => ?_)
    · refine g_iload_n hX d_O_node_35 2 rfl ?_
      refine g_if_ne hX 56 d_O_node_36 (by decide) h15 (fun h17 => ?_) (fun h18 => ?_)
      · refine g_iload_n hX d_O_node_56 2 rfl ?_
        refine g_iconst hX 1 d_O_node_57 (by decide) ?_
        obtain ⟨vq28, h19, h20⟩ := obind h17
        have KJ20 : Gd X Y 0 σ [] 80 [.int vq28] := by
          cases h20
          exact g_ireturn hX hR d_O_node_80
        refine g_icmp_ne hX 72 d_O_node_58 (by decide) h19 (fun h22 => ?_) (fun h23 => ?_)
        · refine g_aload_n hX d_O_node_72 0 rfl ?_
          refine g_getR hX iw_0 sh_0 rfl fl_O_42 d_O_node_73 ?_
          refine g_iload_n hX d_O_node_76 1 rfl ?_
          obtain ⟨vq24, h25, h26⟩ := obind h22
          refine g_callV hX [.int x1] [] mv_O_137 (c_T_thingsOf X.2.1 Y 10 x1 isT_10 σ _ h25) (by decide) iw_10 sh_10 rfl rfl rfl (Nat.le_of_ble_eq_true rfl) d_O_node_77 (fun h27 => ?_)
          show Gd X Y 0 σ [(0, .ref (adr Y 0)), (1, .int x1), (2, .int x2)] 80 [.int vq24]
          refine g_sub (lv2 := []) [] rfl ?_
          cases h26
          exact KJ20
        · refine g_aload_n hX d_O_node_61 0 rfl ?_
          refine g_getR hX iw_0 sh_0 rfl fl_O_42 d_O_node_62 ?_
          refine g_iload_n hX d_O_node_65 1 rfl ?_
          obtain ⟨vq29, h30, h31⟩ := obind h23
          refine g_callV hX [.int x1] [] mv_O_134 (c_T_partCount X.2.1 Y 10 x1 isT_10 σ _ h30) (by decide) iw_10 sh_10 rfl rfl rfl (Nat.le_of_ble_eq_true rfl) d_O_node_66 (fun h32 => ?_)
          show Gd X Y 0 σ [(0, .ref (adr Y 0)), (1, .int x1), (2, .int x2)] 69 [.int vq29]
          refine g_goto hX 80 d_O_node_69 (by decide) ?_
          refine g_sub (lv2 := []) [] rfl ?_
          cases h31
          exact KJ20
      · refine g_aload_n hX d_O_node_39 0 rfl ?_
        refine g_getR hX iw_0 sh_0 rfl fl_O_42 d_O_node_40 ?_
        refine g_iload_n hX d_O_node_43 1 rfl ?_
        obtain ⟨vq33, h34, h35⟩ := obind h18
        refine g_callV hX [.int x1] [] mv_O_131 (c_T_isTurning X.2.1 Y 10 x1 isT_10 σ _ h34) (by decide) iw_10 sh_10 rfl rfl rfl (Nat.le_of_ble_eq_true rfl) d_O_node_44 (fun h36 => ?_)
        show Gd X Y 0 σ [(0, .ref (adr Y 0)), (1, .int x1), (2, .int x2)] 47 [.int vq33]
        obtain ⟨vq42, h37, h38⟩ := ltex h35
        have KJ38 : okR (some .boolean) (some (.int vq42)) → Gd X Y 0 σ [] 55 [.int vq42] := by
          intro hbvq42
          cases h38
          exact g_ireturn hX hR d_O_node_55
        refine g_if_eq hX 54 d_O_node_47 (by decide) h37 (fun h40 => ?_) (fun h41 => ?_)
        · refine g_iconst hX 0 d_O_node_54 (by decide) ?_
          refine g_sub (lv2 := []) [] rfl ?_
          cases h40
          exact KJ38 okB0
        · refine g_iconst hX 1 d_O_node_50 (by decide) ?_
          refine g_goto hX 55 d_O_node_51 (by decide) ?_
          refine g_sub (lv2 := []) [] rfl ?_
          cases h41
          exact KJ38 okB1
    · refine g_iconst hX (-1) d_O_node_33 (by decide) ?_
      cases h16
      exact g_ireturn hX hR d_O_node_34
  refine g_if_lt hX 19 d_O_node_1 (by decide) h2 (fun h4 => ?_) (fun h5 => ?_)
  · cases h4
    exact Kbq1t rfl
  · refine g_iload_n hX d_O_node_4 1 rfl ?_
    refine g_bipush hX 7 d_O_node_5 (by decide) ?_
    refine g_icmp_ge hX 19 d_O_node_7 (by decide) h5 (fun h6 => ?_) (fun h7 => ?_)
    · cases h6
      exact Kbq1t rfl
    · refine g_iload_n hX d_O_node_10 2 rfl ?_
      refine g_if_lt hX 19 d_O_node_11 (by decide) h7 (fun h8 => ?_) (fun h9 => ?_)
      · cases h8
        exact Kbq1t rfl
      · refine g_iload_n hX d_O_node_14 2 rfl ?_
        refine g_iconst hX 2 d_O_node_15 (by decide) ?_
        refine g_icmp_le hX 22 d_O_node_16 (by decide) h9 (fun h10 => ?_) (fun h11 => ?_)
        · cases h10
          exact Kbq1f (by decide)
        · cases h11
          exact Kbq1t rfl
noncomputable def O_isRowNumber (x0 : Int32) : Int32 := lt (if x0 < 0 then false else if 40320 ≤ x0 then false else true : Bool) (fun bq1 => lt (if bq1 = true then 1 else 0 : Int32) (fun vq13 => vq13))
set_option maxHeartbeats 4000000 in
set_option maxRecDepth 100000 in
theorem c_O_isRowNumber (l : Launch) (Y : Wx) (x0 : Int32)  (σ : Mem) (o : Int32) (hf : O_isRowNumber x0 = o) : Ct l Y 0 y_O_isRowNumber b_O_isRowNumber 1 (some .boolean) 0 [.int x0] σ (some (.int o)) σ := by
  unfold O_isRowNumber at hf
  refine ct_of (by decide) (Nat.le_of_ble_eq_true rfl) rfl (fun X hXl hX hR => ?_)
  subst hXl
  have hX : Fx X Y 0 b_O_isRowNumber 1 R_O 0 := hX
  refine g_iload_n hX d_O_isRowNumber_0 0 rfl ?_
  obtain ⟨bq1, h2, h3⟩ := ltex hf
  obtain ⟨vq13, h8, h9⟩ := ltex h3
  have KJ9 : okR (some .boolean) (some (.int vq13)) → Gd X Y 0 σ [] 15 [.int vq13] := by
    intro hbvq13
    cases h9
    exact g_zreturn hX hR hbvq13 d_O_isRowNumber_15
  have Kbq1t : bq1 = true → Gd X Y 0 σ [(0, .int x0)] 10 [] := by
    intro h14
    have h11 := (if_pos h14).symm.trans h8
    refine g_iconst hX 1 d_O_isRowNumber_10 (by decide) ?_
    refine g_goto hX 15 d_O_isRowNumber_11 (by decide) ?_
    refine g_sub (lv2 := []) [] rfl ?_
    cases h11
    exact KJ9 okB1
  have Kbq1f : ¬ bq1 = true → Gd X Y 0 σ [(0, .int x0)] 14 [] := by
    intro h14
    have h12 := (if_neg h14).symm.trans h8
    refine g_iconst hX 0 d_O_isRowNumber_14 (by decide) ?_
    refine g_sub (lv2 := []) [] rfl ?_
    cases h12
    exact KJ9 okB0
  refine g_if_lt hX 14 d_O_isRowNumber_1 (by decide) h2 (fun h4 => ?_) (fun h5 => ?_)
  · cases h4
    exact Kbq1f (by decide)
  · refine g_iload_n hX d_O_isRowNumber_4 0 rfl ?_
    refine g_ldc hX d_O_isRowNumber_5 q_259 ?_
    refine g_icmp_ge hX 14 d_O_isRowNumber_7 (by decide) h5 (fun h6 => ?_) (fun h7 => ?_)
    · cases h6
      exact Kbq1f (by decide)
    · cases h7
      exact Kbq1t rfl
noncomputable def O_row (x1 : Int32) (x2 : Int32) (σ : Mem) : Option (Int32 × Mem) := lt (if (O_isRowNumber x1) = 0 then true else if x2 < 0 then true else if x2 < 8 then false else true : Bool) (fun bq2 => if bq2 = true then some ((-2), σ) else (T_rowCount 10 σ).bind (fun vq13 => lt (if 0 ≤ (lg_cmp (x1.toInt64) vq13) then true else if x2 < (σ 0 0) then false else true : Bool) (fun bq17 => if bq17 = true then some ((-1), σ) else (T_layRow 10 x1 4 σ).bind (fun σ26 => (rd σ26 4 x2).bind (fun vq30 => some (vq30, σ26))))))
set_option maxHeartbeats 4000000 in
set_option maxRecDepth 100000 in
theorem c_O_row (l : Launch) (Y : Wx) (x1 : Int32) (x2 : Int32)  (σ : Mem) (o : Int32 × Mem) (hf : O_row x1 x2 σ = some o) : Ct l Y 0 y_O_row b_O_row 3 (some .int) 3 [.ref (adr Y 0), .int x1, .int x2] σ (some (.int o.1)) o.2 := by
  unfold O_row at hf
  refine ct_of (by decide) (Nat.le_of_ble_eq_true rfl) rfl (fun X hXl hX hR => ?_)
  subst hXl
  have hX : Fx X Y 0 b_O_row 3 R_O 3 := hX
  refine g_iload_n hX d_O_row_0 1 rfl ?_
  refine g_callS hX [.int x1] [] mv_O_140 (c_O_isRowNumber X.2.1 Y x1 σ _ rfl) (by decide) rfl rfl (Nat.le_of_ble_eq_true rfl) d_O_row_1 (fun h1 => ?_)
  show Gd X Y 0 σ [(0, .ref (adr Y 0)), (1, .int x1), (2, .int x2)] 4 [.int (O_isRowNumber x1)]
  obtain ⟨bq2, h3, h4⟩ := ltex hf
  have Kbq2t : bq2 = true → Gd X Y 0 σ [(0, .ref (adr Y 0)), (1, .int x1), (2, .int x2)] 17 [] := by
    intro h33
    have h11 := (if_pos h33).symm.trans h4
    refine g_bipush hX (-2) d_O_row_17 (by decide) ?_
    cases h11
    exact g_ireturn hX hR d_O_row_19
  have Kbq2f : ¬ bq2 = true → Gd X Y 0 σ [(0, .ref (adr Y 0)), (1, .int x1), (2, .int x2)] 20 [] := by
    intro h33
    have h12 := (if_neg h33).symm.trans h4
    refine g_iload_n hX d_O_row_20 1 rfl ?_
    refine g_i2l hX d_O_row_21 ?_
    refine g_aload_n hX d_O_row_22 0 rfl ?_
    refine g_getR hX iw_0 sh_0 rfl fl_O_42 d_O_row_23 ?_
    obtain ⟨vq13, h14, h15⟩ := obind h12
    refine g_callV hX [] [.long (x1.toInt64)] mv_O_123 (c_T_rowCount X.2.1 Y 10 isT_10 σ _ h14) (by decide) iw_10 sh_10 rfl rfl rfl (Nat.le_of_ble_eq_true rfl) d_O_row_26 (fun h16 => ?_)
    show Gd X Y 0 σ [(0, .ref (adr Y 0)), (1, .int x1), (2, .int x2)] 29 [.long vq13, .long (x1.toInt64)]
    refine g_lcmp hX d_O_row_29 ?_
    obtain ⟨bq17, h18, h19⟩ := ltex h15
    have Kbq17t : bq17 = true → Gd X Y 0 σ [(0, .ref (adr Y 0)), (1, .int x1), (2, .int x2)] 41 [] := by
      intro h32
      have h24 := (if_pos h32).symm.trans h19
      refine g_iconst hX (-1) d_O_row_41 (by decide) ?_
      cases h24
      exact g_ireturn hX hR d_O_row_42
    have Kbq17f : ¬ bq17 = true → Gd X Y 0 σ [(0, .ref (adr Y 0)), (1, .int x1), (2, .int x2)] 43 [] := by
      intro h32
      have h25 := (if_neg h32).symm.trans h19
      refine g_aload_n hX d_O_row_43 0 rfl ?_
      refine g_getR hX iw_0 sh_0 rfl fl_O_42 d_O_row_44 ?_
      refine g_iload_n hX d_O_row_47 1 rfl ?_
      refine g_aload_n hX d_O_row_48 0 rfl ?_
      refine g_getR hX iw_0 sh_0 rfl fl_O_58 d_O_row_49 ?_
      obtain ⟨σ26, h27, h28⟩ := obind h25
      refine g_callV hX [.int x1, .ref (adr Y 4)] [] mv_O_143 (c_T_layRow X.2.1 Y 10 x1 4 isT_10 isA_4 σ _ h27) (by decide) iw_10 sh_10 rfl rfl rfl (Nat.le_of_ble_eq_true rfl) d_O_row_52 (fun h29 => ?_)
      show Gd X Y 0 σ26 [(0, .ref (adr Y 0)), (1, .int x1), (2, .int x2)] 55 []
      refine g_aload_n hX d_O_row_55 0 rfl ?_
      refine g_getR hX iw_0 sh_0 rfl fl_O_58 d_O_row_56 ?_
      refine g_iload_n hX d_O_row_59 2 rfl ?_
      refine g_iaload hX iw_4 sh_4 d_O_row_60 h28 (fun vq30 h31 => ?_)
      cases h31
      exact g_ireturn hX hR d_O_row_61
    refine g_if_ge hX 41 d_O_row_30 (by decide) h18 (fun h20 => ?_) (fun h21 => ?_)
    · cases h20
      exact Kbq17t rfl
    · refine g_iload_n hX d_O_row_33 2 rfl ?_
      refine g_aload_n hX d_O_row_34 0 rfl ?_
      refine g_getI hX iw_0 sh_0 rfl fl_O_9.f d_O_row_35 ?_
      refine g_icmp_lt hX 43 d_O_row_38 (by decide) h21 (fun h22 => ?_) (fun h23 => ?_)
      · cases h22
        exact Kbq17f (by decide)
      · cases h23
        exact Kbq17t rfl
  refine g_if_eq hX 17 d_O_row_4 (by decide) h3 (fun h5 => ?_) (fun h6 => ?_)
  · cases h5
    exact Kbq2t rfl
  · refine g_iload_n hX d_O_row_7 2 rfl ?_
    refine g_if_lt hX 17 d_O_row_8 (by decide) h6 (fun h7 => ?_) (fun h8 => ?_)
    · cases h7
      exact Kbq2t rfl
    · refine g_iload_n hX d_O_row_11 2 rfl ?_
      refine g_bipush hX 8 d_O_row_12 (by decide) ?_
      refine g_icmp_lt hX 20 d_O_row_14 (by decide) h8 (fun h9 => ?_) (fun h10 => ?_)
      · cases h9
        exact Kbq2f (by decide)
      · cases h10
        exact Kbq2t rfl
noncomputable def O_isSetOfThings (x1 : Int32) (σ : Mem) : Int32 := lt (if (O_isSet x1) = 0 then false else if (x1 >>> ((σ 0 0) &&& 31)) = 0 then true else false : Bool) (fun bq2 => lt (if bq2 = true then 1 else 0 : Int32) (fun vq14 => vq14))
set_option maxHeartbeats 4000000 in
set_option maxRecDepth 100000 in
theorem c_O_isSetOfThings (l : Launch) (Y : Wx) (x1 : Int32)  (σ : Mem) (o : Int32) (hf : O_isSetOfThings x1 σ = o) : Ct l Y 0 y_O_isSetOfThings b_O_isSetOfThings 2 (some .boolean) 1 [.ref (adr Y 0), .int x1] σ (some (.int o)) σ := by
  unfold O_isSetOfThings at hf
  refine ct_of (by decide) (Nat.le_of_ble_eq_true rfl) rfl (fun X hXl hX hR => ?_)
  subst hXl
  have hX : Fx X Y 0 b_O_isSetOfThings 2 R_O 1 := hX
  refine g_iload_n hX d_O_isSetOfThings_0 1 rfl ?_
  refine g_callS hX [.int x1] [] mv_O_67 (c_O_isSet X.2.1 Y x1 σ _ rfl) (by decide) rfl rfl (Nat.le_of_ble_eq_true rfl) d_O_isSetOfThings_1 (fun h1 => ?_)
  show Gd X Y 0 σ [(0, .ref (adr Y 0)), (1, .int x1)] 4 [.int (O_isSet x1)]
  obtain ⟨bq2, h3, h4⟩ := ltex hf
  obtain ⟨vq14, h9, h10⟩ := ltex h4
  have KJ10 : okR (some .boolean) (some (.int vq14)) → Gd X Y 0 σ [] 21 [.int vq14] := by
    intro hbvq14
    cases h10
    exact g_zreturn hX hR hbvq14 d_O_isSetOfThings_21
  have Kbq2t : bq2 = true → Gd X Y 0 σ [(0, .ref (adr Y 0)), (1, .int x1)] 16 [] := by
    intro h15
    have h12 := (if_pos h15).symm.trans h9
    refine g_iconst hX 1 d_O_isSetOfThings_16 (by decide) ?_
    refine g_goto hX 21 d_O_isSetOfThings_17 (by decide) ?_
    refine g_sub (lv2 := []) [] rfl ?_
    cases h12
    exact KJ10 okB1
  have Kbq2f : ¬ bq2 = true → Gd X Y 0 σ [(0, .ref (adr Y 0)), (1, .int x1)] 20 [] := by
    intro h15
    have h13 := (if_neg h15).symm.trans h9
    refine g_iconst hX 0 d_O_isSetOfThings_20 (by decide) ?_
    refine g_sub (lv2 := []) [] rfl ?_
    cases h13
    exact KJ10 okB0
  refine g_if_eq hX 20 d_O_isSetOfThings_4 (by decide) h3 (fun h5 => ?_) (fun h6 => ?_)
  · cases h5
    exact Kbq2f (by decide)
  · refine g_iload_n hX d_O_isSetOfThings_7 1 rfl ?_
    refine g_aload_n hX d_O_isSetOfThings_8 0 rfl ?_
    refine g_getI hX iw_0 sh_0 rfl fl_O_9.f d_O_isSetOfThings_9 ?_
    refine g_ishr hX d_O_isSetOfThings_12 ?_
    refine g_if_ne hX 20 d_O_isSetOfThings_13 (by decide) h6 (fun h7 => ?_) (fun h8 => ?_)
    · cases h7
      exact Kbq2f (by decide)
    · cases h8
      exact Kbq2t rfl
noncomputable def O_may (x1 : Int32) (σ : Mem) : Option (Int32 × Mem) := if (O_isSetOfThings x1 σ) = 0 then some ((-2), σ) else (T_draw 32 10 σ).bind (fun σ4 => (T_reduce 32 x1 σ4).bind (fun q => lt q.1 (fun vq8 => lt q.2 (fun σ9 => lt (if vq8 = 0 then 0 else 1 : Int32) (fun vq18 => some (vq18, σ9))))))
set_option maxHeartbeats 4000000 in
set_option maxRecDepth 100000 in
theorem c_O_may (l : Launch) (Y : Wx) (x1 : Int32)  (σ : Mem) (o : Int32 × Mem) (hf : O_may x1 σ = some o) : Ct l Y 0 y_O_may b_O_may 2 (some .int) 28 [.ref (adr Y 0), .int x1] σ (some (.int o.1)) o.2 := by
  unfold O_may at hf
  refine ct_of (by decide) (Nat.le_of_ble_eq_true rfl) rfl (fun X hXl hX hR => ?_)
  subst hXl
  have hX : Fx X Y 0 b_O_may 2 R_O 28 := hX
  refine g_aload_n hX d_O_may_0 0 rfl ?_
  refine g_iload_n hX d_O_may_1 1 rfl ?_
  refine g_callV hX [.int x1] [] mv_O_147 (c_O_isSetOfThings X.2.1 Y x1 σ _ rfl) (by decide) iw_0 sh_0 rfl rfl rfl (Nat.le_of_ble_eq_true rfl) d_O_may_2 (fun h1 => ?_)
  show Gd X Y 0 σ [(0, .ref (adr Y 0)), (1, .int x1)] 5 [.int (O_isSetOfThings x1 σ)]
  refine g_if_ne hX 11 d_O_may_5 (by decide) hf (fun h2 => ?_) (fun h3 => ?_)
  · refine g_aload_n hX d_O_may_11 0 rfl ?_
    refine g_getR hX iw_0 sh_0 rfl fl_O_55 d_O_may_12 ?_
    refine g_aload_n hX d_O_may_15 0 rfl ?_
    refine g_getR hX iw_0 sh_0 rfl fl_O_42 d_O_may_16 ?_
    obtain ⟨σ4, h5, h6⟩ := obind h2
    refine g_callV hX [.ref (adr Y 10)] [] mv_O_100 (c_T_draw X.2.1 Y 32 10 isT_32 isT_10 σ _ h5) (by decide) iw_32 sh_32 rfl rfl rfl (Nat.le_of_ble_eq_true rfl) d_O_may_19 (fun h7 => ?_)
    show Gd X Y 0 σ4 [(0, .ref (adr Y 0)), (1, .int x1)] 22 []
    refine g_aload_n hX d_O_may_22 0 rfl ?_
    refine g_getR hX iw_0 sh_0 rfl fl_O_55 d_O_may_23 ?_
    refine g_iload_n hX d_O_may_26 1 rfl ?_
    obtain ⟨⟨vq8, σ9⟩, h10, h11⟩ := obind h6
    have h11 := lt2 h11
    refine g_callV hX [.int x1] [] mv_O_97 (c_T_reduce X.2.1 Y 32 x1 isT_32 σ4 _ h10) (by decide) iw_32 sh_32 rfl rfl rfl (Nat.le_of_ble_eq_true rfl) d_O_may_27 (fun h12 => ?_)
    show Gd X Y 0 σ9 [(0, .ref (adr Y 0)), (1, .int x1)] 30 [.int vq8]
    obtain ⟨vq18, h13, h14⟩ := ltex h11
    have KJ14 : okR (some .boolean) (some (.int vq18)) → Gd X Y 0 σ9 [] 38 [.int vq18] := by
      intro hbvq18
      cases h14
      exact g_ireturn hX hR d_O_may_38
    refine g_if_eq hX 37 d_O_may_30 (by decide) h13 (fun h16 => ?_) (fun h17 => ?_)
    · refine g_iconst hX 0 d_O_may_37 (by decide) ?_
      refine g_sub (lv2 := []) [] rfl ?_
      cases h16
      exact KJ14 okB0
    · refine g_iconst hX 1 d_O_may_33 (by decide) ?_
      refine g_goto hX 38 d_O_may_34 (by decide) ?_
      refine g_sub (lv2 := []) [] rfl ?_
      cases h17
      exact KJ14 okB1
  · refine g_bipush hX (-2) d_O_may_8 (by decide) ?_
    cases h3
    exact g_ireturn hX hR d_O_may_10
