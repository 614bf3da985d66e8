noncomputable def S_isLost (x1 : Int32) (σ : Mem) : Option (Int32) := (rd σ 7 x1).bind (fun vq1 => lt (if vq1 = (-1) then 1 else 0 : Int32) (fun vq8 => some vq8))
set_option maxHeartbeats 4000000 in
set_option maxRecDepth 100000 in
theorem c_S_isLost (l : Launch) (Y : Wx) (x1 : Int32)  (σ : Mem) (o : Int32) (hf : S_isLost x1 σ = some o) : Ct l Y 0 y_S_isLost b_S_isLost 2 (some .boolean) 0 [.ref (adr Y 6), .int x1] σ (some (.int o)) σ := by
  unfold S_isLost at hf
  refine ct_of (by decide) (Nat.le_of_ble_eq_true rfl) rfl (fun X hXl hX hR => ?_)
  subst hXl
  have hX : Fx X Y 0 b_S_isLost 2 R_S 0 := hX
  refine g_aload_n hX d_S_isLost_0 0 rfl ?_
  refine g_getR hX iw_6 sh_6 rfl fl_S_9 d_S_isLost_1 ?_
  refine g_iload_n hX d_S_isLost_4 1 rfl ?_
  refine g_iaload hX iw_7 sh_7 d_S_isLost_5 hf (fun vq1 h2 => ?_)
  refine g_iconst hX (-1) d_S_isLost_6 (by decide) ?_
  obtain ⟨vq8, h3, h4⟩ := ltex h2
  have KJ4 : okR (some .boolean) (some (.int vq8)) → Gd X Y 0 σ [] 15 [.int vq8] := by
    intro hbvq8
    cases h4
    exact g_zreturn hX hR hbvq8 d_S_isLost_15
  refine g_icmp_ne hX 14 d_S_isLost_7 (by decide) h3 (fun h6 => ?_) (fun h7 => ?_)
  · refine g_iconst hX 0 d_S_isLost_14 (by decide) ?_
    refine g_sub (lv2 := []) [] rfl ?_
    cases h6
    exact KJ4 okB0
  · refine g_iconst hX 1 d_S_isLost_10 (by decide) ?_
    refine g_goto hX 15 d_S_isLost_11 (by decide) ?_
    refine g_sub (lv2 := []) [] rfl ?_
    cases h7
    exact KJ4 okB1
noncomputable def S_formOf (x1 : Int32) (σ : Mem) : Option (Int32) := (rd σ 7 x1).bind (fun vq1 => some vq1)
set_option maxHeartbeats 4000000 in
set_option maxRecDepth 100000 in
theorem c_S_formOf (l : Launch) (Y : Wx) (x1 : Int32)  (σ : Mem) (o : Int32) (hf : S_formOf x1 σ = some o) : Ct l Y 0 y_S_formOf b_S_formOf 2 (some .int) 0 [.ref (adr Y 6), .int x1] σ (some (.int o)) σ := by
  unfold S_formOf at hf
  refine ct_of (by decide) (Nat.le_of_ble_eq_true rfl) rfl (fun X hXl hX hR => ?_)
  subst hXl
  have hX : Fx X Y 0 b_S_formOf 2 R_S 0 := hX
  refine g_aload_n hX d_S_formOf_0 0 rfl ?_
  refine g_getR hX iw_6 sh_6 rfl fl_S_9 d_S_formOf_1 ?_
  refine g_iload_n hX d_S_formOf_4 1 rfl ?_
  refine g_iaload hX iw_7 sh_7 d_S_formOf_5 hf (fun vq1 h2 => ?_)
  cases h2
  exact g_ireturn hX hR d_S_formOf_6
noncomputable def S_sizeOf (x1 : Int32) (σ : Mem) : Option (Int32) := (rd σ 8 x1).bind (fun vq1 => some vq1)
set_option maxHeartbeats 4000000 in
set_option maxRecDepth 100000 in
theorem c_S_sizeOf (l : Launch) (Y : Wx) (x1 : Int32)  (σ : Mem) (o : Int32) (hf : S_sizeOf x1 σ = some o) : Ct l Y 0 y_S_sizeOf b_S_sizeOf 2 (some .int) 0 [.ref (adr Y 6), .int x1] σ (some (.int o)) σ := by
  unfold S_sizeOf at hf
  refine ct_of (by decide) (Nat.le_of_ble_eq_true rfl) rfl (fun X hXl hX hR => ?_)
  subst hXl
  have hX : Fx X Y 0 b_S_sizeOf 2 R_S 0 := hX
  refine g_aload_n hX d_S_sizeOf_0 0 rfl ?_
  refine g_getR hX iw_6 sh_6 rfl fl_S_13 d_S_sizeOf_1 ?_
  refine g_iload_n hX d_S_sizeOf_4 1 rfl ?_
  refine g_iaload hX iw_8 sh_8 d_S_sizeOf_5 hf (fun vq1 h2 => ?_)
  cases h2
  exact g_ireturn hX hR d_S_sizeOf_6
noncomputable def S_lay_b1 (x1 : Int32) (x3 : Int32) (vq5 : Int32) (σ6 : Mem) : Option ((Int32 × Mem) ⊕ (Mem)) := if x3 ≤ vq5 then some (.inr σ6) else (wr σ6 9 ((x1 * 60) + vq5) 0).bind (fun σ16 => lt (vq5 + 1) (fun vq18 => some (.inl (vq18, σ16))))
noncomputable def S_lay (x1 : Int32) (x2 : Int32) (x3 : Int32) (σ : Mem) : Option (Mem) := (wr σ 7 x1 x2).bind (fun σ1 => (wr σ1 8 x1 x3).bind (fun σ3 => (lp (fun s => S_lay_b1 x1 x3 s.1 s.2) fuel (0, σ3)).bind (fun σ7 => some σ7)))
set_option maxHeartbeats 4000000 in
set_option maxRecDepth 100000 in
theorem c_S_lay (l : Launch) (Y : Wx) (x1 : Int32) (x2 : Int32) (x3 : Int32)  (σ : Mem) (o : Mem) (hf : S_lay x1 x2 x3 σ = some o) : Ct l Y 0 y_S_lay b_S_lay 5 none 0 [.ref (adr Y 6), .int x1, .int x2, .int x3] σ none o := by
  unfold S_lay at hf
  refine ct_of (by decide) (Nat.le_of_ble_eq_true rfl) rfl (fun X hXl hX hR => ?_)
  subst hXl
  have hX : Fx X Y 0 b_S_lay 5 R_S 0 := hX
  refine g_aload_n hX d_S_lay_0 0 rfl ?_
  refine g_getR hX iw_6 sh_6 rfl fl_S_9 d_S_lay_1 ?_
  refine g_iload_n hX d_S_lay_4 1 rfl ?_
  refine g_iload_n hX d_S_lay_5 2 rfl ?_
  refine g_iastore hX iw_7 sh_7 d_S_lay_6 hf (fun σ1 h2 => ?_)
  refine g_aload_n hX d_S_lay_7 0 rfl ?_
  refine g_getR hX iw_6 sh_6 rfl fl_S_13 d_S_lay_8 ?_
  refine g_iload_n hX d_S_lay_11 1 rfl ?_
  refine g_iload_n hX d_S_lay_12 3 rfl ?_
  refine g_iastore hX iw_8 sh_8 d_S_lay_13 h2 (fun σ3 h4 => ?_)
  refine g_iconst hX 0 d_S_lay_14 (by decide) ?_
  refine g_istoreV hX [(4, .int 0), (0, .ref (adr Y 6)), (1, .int x1), (2, .int x2), (3, .int x3)] d_S_lay_15 (by decide) rfl ?_
  obtain ⟨σ7, h11, h12⟩ := obind h4
  have KX12 : Gd X Y 0 σ7 [] 42 [] := by
    cases h12
    exact g_return hX hR d_S_lay_42
  refine g_sub (lv2 := [(0, .ref (adr Y 6)), (1, .int x1), (3, .int x3), (4, .int 0)]) [1, 2, 4, 0] rfl ?_
  refine g_loop (fun s => S_lay_b1 x1 x3 s.1 s.2) (fun s => Gd X Y 0 s.2 [(0, .ref (adr Y 6)), (1, .int x1), (3, .int x3), (4, .int s.1)] 17 []) σ7 ?_ fuel (0, σ3) h11
  intro s y10 h10 h8 h9
  obtain ⟨vq5, σ6⟩ := s
  have h10 : S_lay_b1 x1 x3 vq5 σ6 = some y10 := h10
  unfold S_lay_b1 at h10
  show Gd X Y 0 σ6 [(0, .ref (adr Y 6)), (1, .int x1), (3, .int x3), (4, .int vq5)] 17 []
  refine g_iload hX d_S_lay_17 3 rfl ?_
  refine g_iload_n hX d_S_lay_19 2 rfl ?_
  refine g_icmp_ge hX 42 d_S_lay_20 (by decide) h10 (fun h14 => ?_) (fun h15 => ?_)
  · refine g_sub (lv2 := []) [] rfl ?_
    cases h14
    have h13 := h9 σ6 rfl
    cases h13
    exact KX12
  · refine g_aload_n hX d_S_lay_23 0 rfl ?_
    refine g_getR hX iw_6 sh_6 rfl fl_S_16 d_S_lay_24 ?_
    refine g_iload_n hX d_S_lay_27 1 rfl ?_
    refine g_bipush hX 60 d_S_lay_28 (by decide) ?_
    refine g_imul hX d_S_lay_30 ?_
    refine g_iload hX d_S_lay_31 3 rfl ?_
    refine g_iadd hX d_S_lay_33 ?_
    refine g_iconst hX 0 d_S_lay_34 (by decide) ?_
    refine g_iastore hX iw_9 sh_9 d_S_lay_35 h15 (fun σ16 h17 => ?_)
    refine g_iinc hX (fun vq18 => [(4, .int vq18), (0, .ref (adr Y 6)), (1, .int x1), (3, .int x3)]) d_S_lay_36 3 rfl rfl (by decide) (fun _ => rfl) h17 (fun vq18 h19 => ?_)
    refine g_goto hX 17 d_S_lay_39 (by decide) ?_
    refine g_sub (lv2 := [(0, .ref (adr Y 6)), (1, .int x1), (3, .int x3), (4, .int vq18)]) [1, 2, 3, 0] rfl ?_
    cases h19
    exact h8 (vq18, σ16) rfl
noncomputable def S_drop (x1 : Int32) (σ : Mem) : Option (Mem) := (wr σ 7 x1 (-1)).bind (fun σ1 => (wr σ1 8 x1 0).bind (fun σ3 => some σ3))
set_option maxHeartbeats 4000000 in
set_option maxRecDepth 100000 in
theorem c_S_drop (l : Launch) (Y : Wx) (x1 : Int32)  (σ : Mem) (o : Mem) (hf : S_drop x1 σ = some o) : Ct l Y 0 y_S_drop b_S_drop 2 none 0 [.ref (adr Y 6), .int x1] σ none o := by
  unfold S_drop at hf
  refine ct_of (by decide) (Nat.le_of_ble_eq_true rfl) rfl (fun X hXl hX hR => ?_)
  subst hXl
  have hX : Fx X Y 0 b_S_drop 2 R_S 0 := hX
  refine g_aload_n hX d_S_drop_0 0 rfl ?_
  refine g_getR hX iw_6 sh_6 rfl fl_S_9 d_S_drop_1 ?_
  refine g_iload_n hX d_S_drop_4 1 rfl ?_
  refine g_iconst hX (-1) d_S_drop_5 (by decide) ?_
  refine g_iastore hX iw_7 sh_7 d_S_drop_6 hf (fun σ1 h2 => ?_)
  refine g_aload_n hX d_S_drop_7 0 rfl ?_
  refine g_getR hX iw_6 sh_6 rfl fl_S_13 d_S_drop_8 ?_
  refine g_iload_n hX d_S_drop_11 1 rfl ?_
  refine g_iconst hX 0 d_S_drop_12 (by decide) ?_
  refine g_iastore hX iw_8 sh_8 d_S_drop_13 h2 (fun σ3 h4 => ?_)
  cases h4
  exact g_return hX hR d_S_drop_14
noncomputable def S_hasItems (x1 : Int32) (x2 : Int32) (x3 : Int32) (σ : Mem) : Option (Int32) := ((if x2 < 0 then some false else if x3 < 0 then some false else (rd σ 8 x1).bind (fun vq8 => if (vq8 - x3) < x2 then some false else some true) : Option (Bool))).bind (fun bq1 => lt (if bq1 = true then 1 else 0 : Int32) (fun vq17 => some vq17))
set_option maxHeartbeats 4000000 in
set_option maxRecDepth 100000 in
theorem c_S_hasItems (l : Launch) (Y : Wx) (x1 : Int32) (x2 : Int32) (x3 : Int32)  (σ : Mem) (o : Int32) (hf : S_hasItems x1 x2 x3 σ = some o) : Ct l Y 0 y_S_hasItems b_S_hasItems 4 (some .boolean) 0 [.ref (adr Y 6), .int x1, .int x2, .int x3] σ (some (.int o)) σ := by
  unfold S_hasItems at hf
  refine ct_of (by decide) (Nat.le_of_ble_eq_true rfl) rfl (fun X hXl hX hR => ?_)
  subst hXl
  have hX : Fx X Y 0 b_S_hasItems 4 R_S 0 := hX
  refine g_iload_n hX d_S_hasItems_0 2 rfl ?_
  obtain ⟨bq1, h2, h3⟩ := obind hf
  obtain ⟨vq17, h12, h13⟩ := ltex h3
  have KJ13 : okR (some .boolean) (some (.int vq17)) → Gd X Y 0 σ [] 25 [.int vq17] := by
    intro hbvq17
    cases h13
    exact g_zreturn hX hR hbvq17 d_S_hasItems_25
  have Kbq1t : bq1 = true → Gd X Y 0 σ [(0, .ref (adr Y 6)), (1, .int x1), (2, .int x2), (3, .int x3)] 20 [] := by
    intro h18
    have h15 := (if_pos h18).symm.trans h12
    refine g_iconst hX 1 d_S_hasItems_20 (by decide) ?_
    refine g_goto hX 25 d_S_hasItems_21 (by decide) ?_
    refine g_sub (lv2 := []) [] rfl ?_
    cases h15
    exact KJ13 okB1
  have Kbq1f : ¬ bq1 = true → Gd X Y 0 σ [(0, .ref (adr Y 6)), (1, .int x1), (2, .int x2), (3, .int x3)] 24 [] := by
    intro h18
    have h16 := (if_neg h18).symm.trans h12
    refine g_iconst hX 0 d_S_hasItems_24 (by decide) ?_
    refine g_sub (lv2 := []) [] rfl ?_
    cases h16
    exact KJ13 okB0
  refine g_if_lt hX 24 d_S_hasItems_1 (by decide) h2 (fun h4 => ?_) (fun h5 => ?_)
  · cases h4
    exact Kbq1f (by decide)
  · refine g_iload_n hX d_S_hasItems_4 3 rfl ?_
    refine g_if_lt hX 24 d_S_hasItems_5 (by decide) h5 (fun h6 => ?_) (fun h7 => ?_)
    · cases h6
      exact Kbq1f (by decide)
    · refine g_iload_n hX d_S_hasItems_8 2 rfl ?_
      refine g_aload_n hX d_S_hasItems_9 0 rfl ?_
      refine g_getR hX iw_6 sh_6 rfl fl_S_13 d_S_hasItems_10 ?_
      refine g_iload_n hX d_S_hasItems_13 1 rfl ?_
      refine g_iaload hX iw_8 sh_8 d_S_hasItems_14 h7 (fun vq8 h9 => ?_)
      refine g_iload_n hX d_S_hasItems_15 3 rfl ?_
      refine g_isub hX d_S_hasItems_16 ?_
      refine g_icmp_gt hX 24 d_S_hasItems_17 (by decide) h9 (fun h10 => ?_) (fun h11 => ?_)
      · cases h10
        exact Kbq1f (by decide)
      · cases h11
        exact Kbq1t rfl
noncomputable def S_item (x1 : Int32) (x2 : Int32) (σ : Mem) : Option (Int32) := (rd σ 9 ((x1 * 60) + x2)).bind (fun vq1 => some vq1)
set_option maxHeartbeats 4000000 in
set_option maxRecDepth 100000 in
theorem c_S_item (l : Launch) (Y : Wx) (x1 : Int32) (x2 : Int32)  (σ : Mem) (o : Int32) (hf : S_item x1 x2 σ = some o) : Ct l Y 0 y_S_item b_S_item 3 (some .int) 0 [.ref (adr Y 6), .int x1, .int x2] σ (some (.int o)) σ := by
  unfold S_item at hf
  refine ct_of (by decide) (Nat.le_of_ble_eq_true rfl) rfl (fun X hXl hX hR => ?_)
  subst hXl
  have hX : Fx X Y 0 b_S_item 3 R_S 0 := hX
  refine g_aload_n hX d_S_item_0 0 rfl ?_
  refine g_getR hX iw_6 sh_6 rfl fl_S_16 d_S_item_1 ?_
  refine g_iload_n hX d_S_item_4 1 rfl ?_
  refine g_bipush hX 60 d_S_item_5 (by decide) ?_
  refine g_imul hX d_S_item_7 ?_
  refine g_iload_n hX d_S_item_8 2 rfl ?_
  refine g_iadd hX d_S_item_9 ?_
  refine g_iaload hX iw_9 sh_9 d_S_item_10 hf (fun vq1 h2 => ?_)
  cases h2
  exact g_ireturn hX hR d_S_item_11
noncomputable def S_setItem (x1 : Int32) (x2 : Int32) (x3 : Int32) (σ : Mem) : Option (Mem) := (rd σ 7 x1).bind (fun vq1 => ((if vq1 = 0 then lt (x3.toInt8.toInt32) (fun vq15 => some vq15) else (rd σ 7 x1).bind (fun vq8 => if vq8 = 1 then lt (x3.toInt16.toInt32) (fun vq13 => some vq13) else some x3) : Option (Int32))).bind (fun vq12 => (wr σ 9 ((x1 * 60) + x2) vq12).bind (fun σ17 => some σ17)))
set_option maxHeartbeats 4000000 in
set_option maxRecDepth 100000 in
theorem c_S_setItem (l : Launch) (Y : Wx) (x1 : Int32) (x2 : Int32) (x3 : Int32)  (σ : Mem) (o : Mem) (hf : S_setItem x1 x2 x3 σ = some o) : Ct l Y 0 y_S_setItem b_S_setItem 5 none 0 [.ref (adr Y 6), .int x1, .int x2, .int x3] σ none o := by
  unfold S_setItem at hf
  refine ct_of (by decide) (Nat.le_of_ble_eq_true rfl) rfl (fun X hXl hX hR => ?_)
  subst hXl
  have hX : Fx X Y 0 b_S_setItem 5 R_S 0 := hX
  refine g_iload_n hX d_S_setItem_0 3 rfl ?_
  refine g_istoreV hX [(4, .int x3), (0, .ref (adr Y 6)), (1, .int x1), (2, .int x2), (3, .int x3)] d_S_setItem_1 (by decide) rfl ?_
  refine g_aload_n hX d_S_setItem_3 1 rfl ?_
  refine g_getR hX iw_6 sh_6 rfl fl_S_9 d_S_setItem_4 ?_
  refine g_iload_n hX d_S_setItem_7 2 rfl ?_
  refine g_iaload hX iw_7 sh_7 d_S_setItem_8 hf (fun vq1 h2 => ?_)
  obtain ⟨vq12, h3, h4⟩ := obind h2
  have KJ4 : Gd X Y 0 σ [(0, .ref (adr Y 6)), (1, .int x1), (2, .int x2), (4, .int vq12)] 33 [] := by
    refine g_aload_n hX d_S_setItem_33 0 rfl ?_
    refine g_getR hX iw_6 sh_6 rfl fl_S_16 d_S_setItem_34 ?_
    refine g_iload_n hX d_S_setItem_37 1 rfl ?_
    refine g_bipush hX 60 d_S_setItem_38 (by decide) ?_
    refine g_imul hX d_S_setItem_40 ?_
    refine g_iload_n hX d_S_setItem_41 2 rfl ?_
    refine g_iadd hX d_S_setItem_42 ?_
    refine g_iload hX d_S_setItem_43 3 rfl ?_
    refine g_iastore hX iw_9 sh_9 d_S_setItem_45 h4 (fun σ17 h18 => ?_)
    cases h18
    exact g_return hX hR d_S_setItem_46
  refine g_if_ne hX 19 d_S_setItem_9 (by decide) h3 (fun h6 => ?_) (fun h7 => ?_)
  · refine g_aload_n hX d_S_setItem_19 1 rfl ?_
    refine g_getR hX iw_6 sh_6 rfl fl_S_9 d_S_setItem_20 ?_
    refine g_iload_n hX d_S_setItem_23 2 rfl ?_
    refine g_iaload hX iw_7 sh_7 d_S_setItem_24 h6 (fun vq8 h9 => ?_)
    refine g_iconst hX 1 d_S_setItem_25 (by decide) ?_
    refine g_icmp_ne hX 33 d_S_setItem_26 (by decide) h9 (fun h10 => ?_) (fun h11 => ?_)
    · refine g_sub (lv2 := [(0, .ref (adr Y 6)), (1, .int x1), (2, .int x2), (4, .int x3)]) [1, 2, 3, 0] rfl ?_
      cases h10
      exact KJ4
    · refine g_iload_n hX d_S_setItem_29 4 rfl ?_
      refine g_i2s hX d_S_setItem_30 ?_
      refine g_istore hX (fun vq13 => [(4, .int vq13), (0, .ref (adr Y 6)), (1, .int x1), (2, .int x2), (3, .int x3)]) d_S_setItem_31 (by decide) (fun _ => rfl) h11 (fun vq13 h14 => ?_)
      refine g_sub (lv2 := [(0, .ref (adr Y 6)), (1, .int x1), (2, .int x2), (4, .int vq13)]) [1, 2, 3, 0] rfl ?_
      cases h14
      exact KJ4
  · refine g_iload_n hX d_S_setItem_12 4 rfl ?_
    refine g_i2b hX d_S_setItem_13 ?_
    refine g_istore hX (fun vq15 => [(4, .int vq15), (0, .ref (adr Y 6)), (1, .int x1), (2, .int x2), (3, .int x3)]) d_S_setItem_14 (by decide) (fun _ => rfl) h7 (fun vq15 h16 => ?_)
    refine g_goto hX 33 d_S_setItem_16 (by decide) ?_
    refine g_sub (lv2 := [(0, .ref (adr Y 6)), (1, .int x1), (2, .int x2), (4, .int vq15)]) [1, 2, 3, 0] rfl ?_
    cases h16
    exact KJ4
noncomputable def S_move (x1 : Int32) (x2 : Int32) (x3 : Int32) (x4 : Int32) (x5 : Int32) (σ : Mem) : Option (Mem) := (cpy σ 9 ((x1 * 60) + x2) ((x3 * 60) + x4) x5).bind (fun σ1 => some σ1)
set_option maxHeartbeats 4000000 in
set_option maxRecDepth 100000 in
theorem c_S_move (l : Launch) (Y : Wx) (x1 : Int32) (x2 : Int32) (x3 : Int32) (x4 : Int32) (x5 : Int32)  (σ : Mem) (o : Mem) (hf : S_move x1 x2 x3 x4 x5 σ = some o) : Ct l Y 0 y_S_move b_S_move 6 none 1 [.ref (adr Y 6), .int x1, .int x2, .int x3, .int x4, .int x5] σ none o := by
  unfold S_move at hf
  refine ct_of (by decide) (Nat.le_of_ble_eq_true rfl) rfl (fun X hXl hX hR => ?_)
  subst hXl
  have hX : Fx X Y 0 b_S_move 6 R_S 1 := hX
  refine g_aload_n hX d_S_move_0 0 rfl ?_
  refine g_getR hX iw_6 sh_6 rfl fl_S_16 d_S_move_1 ?_
  refine g_iload_n hX d_S_move_4 1 rfl ?_
  refine g_bipush hX 60 d_S_move_5 (by decide) ?_
  refine g_imul hX d_S_move_7 ?_
  refine g_iload_n hX d_S_move_8 2 rfl ?_
  refine g_iadd hX d_S_move_9 ?_
  refine g_aload_n hX d_S_move_10 0 rfl ?_
  refine g_getR hX iw_6 sh_6 rfl fl_S_16 d_S_move_11 ?_
  refine g_iload_n hX d_S_move_14 3 rfl ?_
  refine g_bipush hX 60 d_S_move_15 (by decide) ?_
  refine g_imul hX d_S_move_17 ?_
  refine g_iload hX d_S_move_18 4 rfl ?_
  refine g_iadd hX d_S_move_20 ?_
  refine g_iload hX d_S_move_21 5 rfl ?_
  refine g_copy hX iw_9 sh_9 (by decide) q_403 q_405 q_404 q_7 (by decide) d_S_move_23 hf (fun σ1 h2 => ?_)
  cases h2
  exact g_return hX hR d_S_move_26
noncomputable def T_add (t : Nat) (x1 : Int32) (x2 : Int32) (σ : Mem) : Option (Mem) := (rd σ (t + 3) x1).bind (fun vq1 => ((if 8 ≤ vq1 then some σ else (rd σ (t + 3) x1).bind (fun vq9 => (wr σ (t + 4) ((x1 * 8) + vq9) x2).bind (fun σ11 => (rd σ11 (t + 3) x1).bind (fun vq13 => (wr σ11 (t + 3) x1 (vq13 + 1)).bind (fun σ15 => (rd σ15 (t + 2) x1).bind (fun vq17 => (rd σ15 (t + 2) x2).bind (fun vq19 => (wr σ15 (t + 2) x1 (vq17 ||| vq19)).bind (fun σ21 => some σ21))))))) : Option (Mem))).bind (fun σ8 => some σ8))
set_option maxHeartbeats 4000000 in
set_option maxRecDepth 100000 in
theorem c_T_add (l : Launch) (Y : Wx) (t : Nat) (x1 : Int32) (x2 : Int32) (ht : isT t) (σ : Mem) (o : Mem) (hf : T_add t x1 x2 σ = some o) : Ct l Y 0 y_T_add b_T_add 3 none 0 [.ref (adr Y t), .int x1, .int x2] σ none o := by
  unfold T_add at hf
  refine ct_of (by decide) (Nat.le_of_ble_eq_true rfl) rfl (fun X hXl hX hR => ?_)
  subst hXl
  have hX : Fx X Y 0 b_T_add 3 R_T 0 := hX
  refine g_aload_n hX d_T_add_0 0 rfl ?_
  refine g_getR hX (iwT ht) (shTt ht) rfl fl_T_18 d_T_add_1 ?_
  refine g_iload_n hX d_T_add_4 1 rfl ?_
  refine g_iaload hX (iwA3 ht) (shA3 ht) d_T_add_5 hf (fun vq1 h2 => ?_)
  refine g_bipush hX 8 d_T_add_6 (by decide) ?_
  obtain ⟨σ8, h3, h4⟩ := obind h2
  have KJ4 : Gd X Y 0 σ8 [] 53 [] := by
    cases h4
    exact g_return hX hR d_T_add_53
  refine g_icmp_ge hX 53 d_T_add_8 (by decide) h3 (fun h6 => ?_) (fun h7 => ?_)
  · refine g_sub (lv2 := []) [] rfl ?_
    cases h6
    exact KJ4
  · refine g_aload_n hX d_T_add_11 0 rfl ?_
    refine g_getR hX (iwT ht) (shTt ht) rfl fl_T_21 d_T_add_12 ?_
    refine g_iload_n hX d_T_add_15 1 rfl ?_
    refine g_bipush hX 8 d_T_add_16 (by decide) ?_
    refine g_imul hX d_T_add_18 ?_
    refine g_aload_n hX d_T_add_19 0 rfl ?_
    refine g_getR hX (iwT ht) (shTt ht) rfl fl_T_18 d_T_add_20 ?_
    refine g_iload_n hX d_T_add_23 1 rfl ?_
    refine g_iaload hX (iwA3 ht) (shA3 ht) d_T_add_24 h7 (fun vq9 h10 => ?_)
    refine g_iadd hX d_T_add_25 ?_
    refine g_iload_n hX d_T_add_26 2 rfl ?_
    refine g_iastore hX (iwA4 ht) (shA4 ht) d_T_add_27 h10 (fun σ11 h12 => ?_)
    refine g_aload_n hX d_T_add_28 0 rfl ?_
    refine g_getR hX (iwT ht) (shTt ht) rfl fl_T_18 d_T_add_29 ?_
    refine g_iload_n hX d_T_add_32 1 rfl ?_
    refine g_dup2 hX d_T_add_33 rfl rfl ?_
    refine g_iaload hX (iwA3 ht) (shA3 ht) d_T_add_34 h12 (fun vq13 h14 => ?_)
    refine g_iconst hX 1 d_T_add_35 (by decide) ?_
    refine g_iadd hX d_T_add_36 ?_
    refine g_iastore hX (iwA3 ht) (shA3 ht) d_T_add_37 h14 (fun σ15 h16 => ?_)
    refine g_aload_n hX d_T_add_38 0 rfl ?_
    refine g_getR hX (iwT ht) (shTt ht) rfl fl_T_15 d_T_add_39 ?_
    refine g_iload_n hX d_T_add_42 1 rfl ?_
    refine g_dup2 hX d_T_add_43 rfl rfl ?_
    refine g_iaload hX (iwA2 ht) (shA2 ht) d_T_add_44 h16 (fun vq17 h18 => ?_)
    refine g_aload_n hX d_T_add_45 0 rfl ?_
    refine g_getR hX (iwT ht) (shTt ht) rfl fl_T_15 d_T_add_46 ?_
    refine g_iload_n hX d_T_add_49 2 rfl ?_
    refine g_iaload hX (iwA2 ht) (shA2 ht) d_T_add_50 h18 (fun vq19 h20 => ?_)
    refine g_ior hX d_T_add_51 ?_
    refine g_iastore hX (iwA2 ht) (shA2 ht) d_T_add_52 h20 (fun σ21 h22 => ?_)
    refine g_sub (lv2 := []) [] rfl ?_
    cases h22
    exact KJ4
noncomputable def T_clear_b1 (t : Nat) (vq1 : Int32) (σ2 : Mem) : Option ((Int32 × Mem) ⊕ (Mem)) := if 24 ≤ vq1 then some (.inr σ2) else (wr σ2 (t + 3) vq1 0).bind (fun σ12 => (wr σ12 (t + 2) vq1 0).bind (fun σ14 => lt (vq1 + 1) (fun vq16 => some (.inl (vq16, σ14)))))
noncomputable def T_clear (t : Nat) (σ : Mem) : Option (Mem) := (lp (fun s => T_clear_b1 t s.1 s.2) fuel (8, σ)).bind (fun σ3 => lt (mput σ3 t 4 0) (fun σ18 => lt (mput σ18 t 5 0) (fun σ20 => some σ20)))
set_option maxHeartbeats 4000000 in
set_option maxRecDepth 100000 in
theorem c_T_clear (l : Launch) (Y : Wx) (t : Nat) (ht : isT t) (σ : Mem) (o : Mem) (hf : T_clear t σ = some o) : Ct l Y 0 y_T_clear b_T_clear 2 none 0 [.ref (adr Y t)] σ none o := by
  unfold T_clear at hf
  refine ct_of (by decide) (Nat.le_of_ble_eq_true rfl) rfl (fun X hXl hX hR => ?_)
  subst hXl
  have hX : Fx X Y 0 b_T_clear 2 R_T 0 := hX
  refine g_bipush hX 8 d_T_clear_0 (by decide) ?_
  refine g_istore_nV hX [(1, .int 8), (0, .ref (adr Y t))] d_T_clear_2 (by decide) rfl ?_
  obtain ⟨σ3, h7, h8⟩ := obind hf
  have KX8 : Gd X Y 0 σ3 [(0, .ref (adr Y t))] 29 [] := by
    refine g_aload_n hX d_T_clear_29 0 rfl ?_
    refine g_iconst hX 0 d_T_clear_30 (by decide) ?_
    refine g_putI hX (iwT ht) (shTt ht) rfl fl_T_24 d_T_clear_31 h8 (fun σ18 h19 => ?_)
    refine g_aload_n hX d_T_clear_34 0 rfl ?_
    refine g_iconst hX 0 d_T_clear_35 (by decide) ?_
    refine g_putI hX (iwT ht) (shTt ht) rfl fl_T_28 d_T_clear_36 h19 (fun σ20 h21 => ?_)
    cases h21
    exact g_return hX hR d_T_clear_39
  refine g_sub (lv2 := [(0, .ref (adr Y t)), (1, .int 8)]) [1, 0] rfl ?_
  refine g_loop (fun s => T_clear_b1 t s.1 s.2) (fun s => Gd X Y 0 s.2 [(0, .ref (adr Y t)), (1, .int s.1)] 3 []) σ3 ?_ fuel (8, σ) h7
  intro s y6 h6 h4 h5
  obtain ⟨vq1, σ2⟩ := s
  have h6 : T_clear_b1 t vq1 σ2 = some y6 := h6
  unfold T_clear_b1 at h6
  show Gd X Y 0 σ2 [(0, .ref (adr Y t)), (1, .int vq1)] 3 []
  refine g_iload_n hX d_T_clear_3 1 rfl ?_
  refine g_bipush hX 24 d_T_clear_4 (by decide) ?_
  refine g_icmp_ge hX 29 d_T_clear_6 (by decide) h6 (fun h10 => ?_) (fun h11 => ?_)
  · refine g_sub (lv2 := [(0, .ref (adr Y t))]) [0] rfl ?_
    cases h10
    have h9 := h5 σ2 rfl
    cases h9
    exact KX8
  · refine g_aload_n hX d_T_clear_9 0 rfl ?_
    refine g_getR hX (iwT ht) (shTt ht) rfl fl_T_18 d_T_clear_10 ?_
    refine g_iload_n hX d_T_clear_13 1 rfl ?_
    refine g_iconst hX 0 d_T_clear_14 (by decide) ?_
    refine g_iastore hX (iwA3 ht) (shA3 ht) d_T_clear_15 h11 (fun σ12 h13 => ?_)
    refine g_aload_n hX d_T_clear_16 0 rfl ?_
    refine g_getR hX (iwT ht) (shTt ht) rfl fl_T_15 d_T_clear_17 ?_
    refine g_iload_n hX d_T_clear_20 1 rfl ?_
    refine g_iconst hX 0 d_T_clear_21 (by decide) ?_
    refine g_iastore hX (iwA2 ht) (shA2 ht) d_T_clear_22 h13 (fun σ14 h15 => ?_)
    refine g_iinc hX (fun vq16 => [(1, .int vq16), (0, .ref (adr Y t))]) d_T_clear_23 1 rfl rfl (by decide) (fun _ => rfl) h15 (fun vq16 h17 => ?_)
    refine g_goto hX 3 d_T_clear_26 (by decide) ?_
    refine g_sub (lv2 := [(0, .ref (adr Y t)), (1, .int vq16)]) [1, 0] rfl ?_
    cases h17
    exact h4 (vq16, σ14) rfl
noncomputable def T_plant_b1 (t : Nat) (x1 : Int32) (vq13 : Int32) (σ14 : Mem) : Option ((Int32 × Mem) ⊕ (Mem)) := if x1 ≤ vq13 then some (.inr σ14) else (T_add t (σ14 t 4) vq13 σ14).bind (fun σ24 => lt (vq13 + 1) (fun vq28 => some (.inl (vq28, σ24))))
noncomputable def T_plant (t : Nat) (x1 : Int32) (σ : Mem) : Option (Mem) := (T_clear t σ).bind (fun σ1 => if 2 ≤ x1 then lt (mput σ1 t 4 8) (fun σ7 => lt (mput σ7 t 5 1) (fun σ9 => (wr σ9 (t + 1) (σ9 t 4) 0).bind (fun σ11 => (lp (fun s => T_plant_b1 t x1 s.1 s.2) fuel (0, σ11)).bind (fun σ15 => some σ15)))) else some σ1)
set_option maxHeartbeats 4000000 in
set_option maxRecDepth 100000 in
theorem c_T_plant (l : Launch) (Y : Wx) (t : Nat) (x1 : Int32) (ht : isT t) (σ : Mem) (o : Mem) (hf : T_plant t x1 σ = some o) : Ct l Y 0 y_T_plant b_T_plant 3 none 1 [.ref (adr Y t), .int x1] σ none o := by
  unfold T_plant at hf
  refine ct_of (by decide) (Nat.le_of_ble_eq_true rfl) rfl (fun X hXl hX hR => ?_)
  subst hXl
  have hX : Fx X Y 0 b_T_plant 3 R_T 1 := hX
  refine g_aload_n hX d_T_plant_0 0 rfl ?_
  obtain ⟨σ1, h2, h3⟩ := obind hf
  refine g_callV hX [] [] mv_T_58 (c_T_clear X.2.1 Y t ht σ _ h2) (by decide) (iwT ht) (shTt ht) rfl rfl rfl (Nat.le_of_ble_eq_true rfl) d_T_plant_1 (fun h4 => ?_)
  show Gd X Y 0 σ1 [(0, .ref (adr Y t)), (1, .int x1)] 4 []
  refine g_iload_n hX d_T_plant_4 1 rfl ?_
  refine g_iconst hX 2 d_T_plant_5 (by decide) ?_
  refine g_icmp_ge hX 10 d_T_plant_6 (by decide) h3 (fun h5 => ?_) (fun h6 => ?_)
  · refine g_aload_n hX d_T_plant_10 0 rfl ?_
    refine g_bipush hX 8 d_T_plant_11 (by decide) ?_
    refine g_putI hX (iwT ht) (shTt ht) rfl fl_T_24 d_T_plant_13 h5 (fun σ7 h8 => ?_)
    refine g_aload_n hX d_T_plant_16 0 rfl ?_
    refine g_iconst hX 1 d_T_plant_17 (by decide) ?_
    refine g_putI hX (iwT ht) (shTt ht) rfl fl_T_28 d_T_plant_18 h8 (fun σ9 h10 => ?_)
    refine g_aload_n hX d_T_plant_21 0 rfl ?_
    refine g_getR hX (iwT ht) (shTt ht) rfl fl_T_11 d_T_plant_22 ?_
    refine g_aload_n hX d_T_plant_25 0 rfl ?_
    refine g_getI hX (iwT ht) (shTt ht) rfl fl_T_24.f d_T_plant_26 ?_
    refine g_iconst hX 0 d_T_plant_29 (by decide) ?_
    refine g_iastore hX (iwA1 ht) (shA1 ht) d_T_plant_30 h10 (fun σ11 h12 => ?_)
    refine g_iconst hX 0 d_T_plant_31 (by decide) ?_
    refine g_istore_nV hX [(2, .int 0), (0, .ref (adr Y t)), (1, .int x1)] d_T_plant_32 (by decide) rfl ?_
    obtain ⟨σ15, h19, h20⟩ := obind h12
    have KX20 : Gd X Y 0 σ15 [] 53 [] := by
      cases h20
      exact g_return hX hR d_T_plant_53
    refine g_sub (lv2 := [(0, .ref (adr Y t)), (1, .int x1), (2, .int 0)]) [1, 2, 0] rfl ?_
    refine g_loop (fun s => T_plant_b1 t x1 s.1 s.2) (fun s => Gd X Y 0 s.2 [(0, .ref (adr Y t)), (1, .int x1), (2, .int s.1)] 33 []) σ15 ?_ fuel (0, σ11) h19
    intro s y18 h18 h16 h17
    obtain ⟨vq13, σ14⟩ := s
    have h18 : T_plant_b1 t x1 vq13 σ14 = some y18 := h18
    unfold T_plant_b1 at h18
    show Gd X Y 0 σ14 [(0, .ref (adr Y t)), (1, .int x1), (2, .int vq13)] 33 []
    refine g_iload_n hX d_T_plant_33 2 rfl ?_
    refine g_iload_n hX d_T_plant_34 1 rfl ?_
    refine g_icmp_ge hX 53 d_T_plant_35 (by decide) h18 (fun h22 => ?_) (fun h23 => ?_)
    · refine g_sub (lv2 := []) [] rfl ?_
      cases h22
      have h21 := h17 σ14 rfl
      cases h21
      exact KX20
    · refine g_aload_n hX d_T_plant_38 0 rfl ?_
      refine g_aload_n hX d_T_plant_39 0 rfl ?_
      refine g_getI hX (iwT ht) (shTt ht) rfl fl_T_24.f d_T_plant_40 ?_
      refine g_iload_n hX d_T_plant_43 2 rfl ?_
      obtain ⟨σ24, h25, h26⟩ := obind h23
      refine g_callV hX [.int (σ14 t 4), .int vq13] [] mv_T_61 (c_T_add X.2.1 Y t (σ14 t 4) vq13 ht σ14 _ h25) (by decide) (iwT ht) (shTt ht) rfl rfl rfl (Nat.le_of_ble_eq_true rfl) d_T_plant_44 (fun h27 => ?_)
      show Gd X Y 0 σ24 [(0, .ref (adr Y t)), (1, .int x1), (2, .int vq13)] 47 []
      refine g_iinc hX (fun vq28 => [(2, .int vq28), (0, .ref (adr Y t)), (1, .int x1)]) d_T_plant_47 2 rfl rfl (by decide) (fun _ => rfl) h26 (fun vq28 h29 => ?_)
      refine g_goto hX 33 d_T_plant_50 (by decide) ?_
      refine g_sub (lv2 := [(0, .ref (adr Y t)), (1, .int x1), (2, .int vq28)]) [1, 2, 0] rfl ?_
      cases h29
      exact h16 (vq28, σ24) rfl
  · cases h6
    exact g_return hX hR d_T_plant_9
noncomputable def T_least (t : Nat) (x1 : Int32) (σ : Mem) : Option (Int32) := (rd σ (t + 2) x1).bind (fun vq1 => (rd σ (t + 2) x1).bind (fun vq3 => some (vq1 &&& (-vq3))))
set_option maxHeartbeats 4000000 in
set_option maxRecDepth 100000 in
theorem c_T_least (l : Launch) (Y : Wx) (t : Nat) (x1 : Int32) (ht : isT t) (σ : Mem) (o : Int32) (hf : T_least t x1 σ = some o) : Ct l Y 0 y_T_least b_T_least 2 (some .int) 0 [.ref (adr Y t), .int x1] σ (some (.int o)) σ := by
  unfold T_least at hf
  refine ct_of (by decide) (Nat.le_of_ble_eq_true rfl) rfl (fun X hXl hX hR => ?_)
  subst hXl
  have hX : Fx X Y 0 b_T_least 2 R_T 0 := hX
  refine g_aload_n hX d_T_least_0 0 rfl ?_
  refine g_getR hX (iwT ht) (shTt ht) rfl fl_T_15 d_T_least_1 ?_
  refine g_iload_n hX d_T_least_4 1 rfl ?_
  refine g_iaload hX (iwA2 ht) (shA2 ht) d_T_least_5 hf (fun vq1 h2 => ?_)
  refine g_aload_n hX d_T_least_6 0 rfl ?_
  refine g_getR hX (iwT ht) (shTt ht) rfl fl_T_15 d_T_least_7 ?_
  refine g_iload_n hX d_T_least_10 1 rfl ?_
  refine g_iaload hX (iwA2 ht) (shA2 ht) d_T_least_11 h2 (fun vq3 h4 => ?_)
  refine g_ineg hX d_T_least_12 ?_
  refine g_iand hX d_T_least_13 ?_
  cases h4
  exact g_ireturn hX hR d_T_least_14
noncomputable def T_part (t : Nat) (x1 : Int32) (x2 : Int32) (σ : Mem) : Option (Int32) := lt (if x2 < 0 then false else if 8 ≤ x2 then false else true : Bool) (fun bq1 => ((if bq1 = true then (rd σ (t + 4) ((x1 * 8) + x2)).bind (fun vq13 => some vq13) else some 0 : Option (Int32))).bind (fun vq15 => some vq15))
set_option maxHeartbeats 4000000 in
set_option maxRecDepth 100000 in
theorem c_T_part (l : Launch) (Y : Wx) (t : Nat) (x1 : Int32) (x2 : Int32) (ht : isT t) (σ : Mem) (o : Int32) (hf : T_part t x1 x2 σ = some o) : Ct l Y 0 y_T_part b_T_part 3 (some .int) 0 [.ref (adr Y t), .int x1, .int x2] σ (some (.int o)) σ := by
  unfold T_part at hf
  refine ct_of (by decide) (Nat.le_of_ble_eq_true rfl) rfl (fun X hXl hX hR => ?_)
  subst hXl
  have hX : Fx X Y 0 b_T_part 3 R_T 0 := hX
  refine g_iload_n hX d_T_part_0 2 rfl ?_
  obtain ⟨bq1, h2, h3⟩ := ltex hf
  obtain ⟨vq15, h8, h9⟩ := obind h3
  have KJ9 : Gd X Y 0 σ [] 25 [.int vq15] := by
    cases h9
    exact g_ireturn hX hR d_T_part_25
  have Kbq1t : bq1 = true → Gd X Y 0 σ [(0, .ref (adr Y t)), (1, .int x1), (2, .int x2)] 10 [] := by
    intro h16
    have h11 := (if_pos h16).symm.trans h8
    refine g_aload_n hX d_T_part_10 0 rfl ?_
    refine g_getR hX (iwT ht) (shTt ht) rfl fl_T_21 d_T_part_11 ?_
    refine g_iload_n hX d_T_part_14 1 rfl ?_
    refine g_bipush hX 8 d_T_part_15 (by decide) ?_
    refine g_imul hX d_T_part_17 ?_
    refine g_iload_n hX d_T_part_18 2 rfl ?_
    refine g_iadd hX d_T_part_19 ?_
    refine g_iaload hX (iwA4 ht) (shA4 ht) d_T_part_20 h11 (fun vq13 h14 => ?_)
    refine g_goto hX 25 d_T_part_21 (by decide) ?_
    refine g_sub (lv2 := []) [] rfl ?_
    cases h14
    exact KJ9
  have Kbq1f : ¬ bq1 = true → Gd X Y 0 σ [(0, .ref (adr Y t)), (1, .int x1), (2, .int x2)] 24 [] := by
    intro h16
    have h12 := (if_neg h16).symm.trans h8
    refine g_iconst hX 0 d_T_part_24 (by decide) ?_
    refine g_sub (lv2 := []) [] rfl ?_
    cases h12
    exact KJ9
  refine g_if_lt hX 24 d_T_part_1 (by decide) h2 (fun h4 => ?_) (fun h5 => ?_)
  · cases h4
    exact Kbq1f (by decide)
  · refine g_iload_n hX d_T_part_4 2 rfl ?_
    refine g_bipush hX 8 d_T_part_5 (by decide) ?_
    refine g_icmp_ge hX 24 d_T_part_7 (by decide) h5 (fun h6 => ?_) (fun h7 => ?_)
    · cases h6
      exact Kbq1f (by decide)
    · cases h7
      exact Kbq1t rfl
noncomputable def T_setPart (t : Nat) (x1 : Int32) (x2 : Int32) (x3 : Int32) (σ : Mem) : Option (Mem) := lt (if x2 < 0 then false else if 8 ≤ x2 then false else true : Bool) (fun bq1 => ((if bq1 = true then (wr σ (t + 4) ((x1 * 8) + x2) x3).bind (fun σ13 => some σ13) else some σ : Option (Mem))).bind (fun σ15 => some σ15))
set_option maxHeartbeats 4000000 in
set_option maxRecDepth 100000 in
theorem c_T_setPart (l : Launch) (Y : Wx) (t : Nat) (x1 : Int32) (x2 : Int32) (x3 : Int32) (ht : isT t) (σ : Mem) (o : Mem) (hf : T_setPart t x1 x2 x3 σ = some o) : Ct l Y 0 y_T_setPart b_T_setPart 4 none 0 [.ref (adr Y t), .int x1, .int x2, .int x3] σ none o := by
  unfold T_setPart at hf
  refine ct_of (by decide) (Nat.le_of_ble_eq_true rfl) rfl (fun X hXl hX hR => ?_)
  subst hXl
  have hX : Fx X Y 0 b_T_setPart 4 R_T 0 := hX
  refine g_iload_n hX d_T_setPart_0 2 rfl ?_
  obtain ⟨bq1, h2, h3⟩ := ltex hf
  obtain ⟨σ15, h8, h9⟩ := obind h3
  have KJ9 : Gd X Y 0 σ15 [] 22 [] := by
    cases h9
    exact g_return hX hR d_T_setPart_22
  have Kbq1t : bq1 = true → Gd X Y 0 σ [(0, .ref (adr Y t)), (1, .int x1), (2, .int x2), (3, .int x3)] 10 [] := by
    intro h16
    have h11 := (if_pos h16).symm.trans h8
    refine g_aload_n hX d_T_setPart_10 0 rfl ?_
    refine g_getR hX (iwT ht) (shTt ht) rfl fl_T_21 d_T_setPart_11 ?_
    refine g_iload_n hX d_T_setPart_14 1 rfl ?_
    refine g_bipush hX 8 d_T_setPart_15 (by decide) ?_
    refine g_imul hX d_T_setPart_17 ?_
    refine g_iload_n hX d_T_setPart_18 2 rfl ?_
    refine g_iadd hX d_T_setPart_19 ?_
    refine g_iload_n hX d_T_setPart_20 3 rfl ?_
    refine g_iastore hX (iwA4 ht) (shA4 ht) d_T_setPart_21 h11 (fun σ13 h14 => ?_)
    refine g_sub (lv2 := []) [] rfl ?_
    cases h14
    exact KJ9
  have Kbq1f : ¬ bq1 = true → Gd X Y 0 σ [(0, .ref (adr Y t)), (1, .int x1), (2, .int x2), (3, .int x3)] 22 [] := by
    intro h16
    have h12 := (if_neg h16).symm.trans h8
    refine g_sub (lv2 := []) [] rfl ?_
    cases h12
    exact KJ9
  refine g_if_lt hX 22 d_T_setPart_1 (by decide) h2 (fun h4 => ?_) (fun h5 => ?_)
  · cases h4
    exact Kbq1f (by decide)
  · refine g_iload_n hX d_T_setPart_4 2 rfl ?_
    refine g_bipush hX 8 d_T_setPart_5 (by decide) ?_
    refine g_icmp_ge hX 22 d_T_setPart_7 (by decide) h5 (fun h6 => ?_) (fun h7 => ?_)
    · cases h6
      exact Kbq1f (by decide)
    · cases h7
      exact Kbq1t rfl
noncomputable def T_turn_b1 (a0 : Nat) (vq1 : Int32) (vq2 : Int32) (σ3 : Mem) : Option ((Int32 × Int32 × Mem) ⊕ (Mem)) := if vq2 ≤ vq1 then some (.inr σ3) else (rd σ3 a0 vq1).bind (fun vq13 => (rd σ3 a0 vq2).bind (fun vq15 => (wr σ3 a0 vq1 vq15).bind (fun σ17 => (wr σ17 a0 vq2 vq13).bind (fun σ19 => lt (vq1 + 1) (fun vq21 => lt (vq2 + (-1)) (fun vq23 => some (.inl (vq21, vq23, σ19))))))))
noncomputable def T_turn (a0 : Nat) (x1 : Int32) (x2 : Int32) (σ : Mem) : Option (Mem) := (lp (fun s => T_turn_b1 a0 s.1 s.2.1 s.2.2) fuel (x1, x2, σ)).bind (fun σ4 => some σ4)
set_option maxHeartbeats 4000000 in
set_option maxRecDepth 100000 in
theorem c_T_turn (l : Launch) (Y : Wx) (a0 : Nat) (x1 : Int32) (x2 : Int32) (ha0 : isA a0) (σ : Mem) (o : Mem) (hf : T_turn a0 x1 x2 σ = some o) : Ct l Y 0 y_T_turn b_T_turn 6 none 0 [.ref (adr Y a0), .int x1, .int x2] σ none o := by
  unfold T_turn at hf
  refine ct_of (by decide) (Nat.le_of_ble_eq_true rfl) rfl (fun X hXl hX hR => ?_)
  subst hXl
  have hX : Fx X Y 0 b_T_turn 6 R_T 0 := hX
  refine g_iload_n hX d_T_turn_0 1 rfl ?_
  refine g_istore_nV hX [(3, .int x1), (0, .ref (adr Y a0)), (1, .int x1), (2, .int x2)] d_T_turn_1 (by decide) rfl ?_
  refine g_iload_n hX d_T_turn_2 3 rfl ?_
  refine g_istoreV hX [(4, .int x2), (3, .int x1), (0, .ref (adr Y a0)), (1, .int x1), (2, .int x2)] d_T_turn_3 (by decide) rfl ?_
  obtain ⟨σ4, h8, h9⟩ := obind hf
  have KX9 : Gd X Y 0 σ4 [] 38 [] := by
    cases h9
    exact g_return hX hR d_T_turn_38
  refine g_sub (lv2 := [(0, .ref (adr Y a0)), (3, .int x1), (4, .int x2)]) [2, 1, 0] rfl ?_
  refine g_loop (fun s => T_turn_b1 a0 s.1 s.2.1 s.2.2) (fun s => Gd X Y 0 s.2.2 [(0, .ref (adr Y a0)), (3, .int s.1), (4, .int s.2.1)] 5 []) σ4 ?_ fuel (x1, x2, σ) h8
  intro s y7 h7 h5 h6
  obtain ⟨vq1, vq2, σ3⟩ := s
  have h7 : T_turn_b1 a0 vq1 vq2 σ3 = some y7 := h7
  unfold T_turn_b1 at h7
  show Gd X Y 0 σ3 [(0, .ref (adr Y a0)), (3, .int vq1), (4, .int vq2)] 5 []
  refine g_iload_n hX d_T_turn_5 1 rfl ?_
  refine g_iload hX d_T_turn_6 2 rfl ?_
  refine g_icmp_ge hX 38 d_T_turn_8 (by decide) h7 (fun h11 => ?_) (fun h12 => ?_)
  · refine g_sub (lv2 := []) [] rfl ?_
    cases h11
    have h10 := h6 σ3 rfl
    cases h10
    exact KX9
  · refine g_aload_n hX d_T_turn_11 0 rfl ?_
    refine g_iload_n hX d_T_turn_12 1 rfl ?_
    refine g_iaload hX ha0.1 ha0.2 d_T_turn_13 h12 (fun vq13 h14 => ?_)
    refine g_istoreV hX [(5, .int vq13), (0, .ref (adr Y a0)), (3, .int vq1), (4, .int vq2)] d_T_turn_14 (by decide) rfl ?_
    refine g_aload_n hX d_T_turn_16 1 rfl ?_
    refine g_iload_n hX d_T_turn_17 2 rfl ?_
    refine g_aload_n hX d_T_turn_18 1 rfl ?_
    refine g_iload hX d_T_turn_19 3 rfl ?_
    refine g_iaload hX ha0.1 ha0.2 d_T_turn_21 h14 (fun vq15 h16 => ?_)
    refine g_iastore hX ha0.1 ha0.2 d_T_turn_22 h16 (fun σ17 h18 => ?_)
    refine g_aload_n hX d_T_turn_23 1 rfl ?_
    refine g_iload hX d_T_turn_24 3 rfl ?_
    refine g_iload hX d_T_turn_26 0 rfl ?_
    refine g_iastore hX ha0.1 ha0.2 d_T_turn_28 h18 (fun σ19 h20 => ?_)
    refine g_iinc hX (fun vq21 => [(3, .int vq21), (5, .int vq13), (0, .ref (adr Y a0)), (4, .int vq2)]) d_T_turn_29 2 rfl rfl (by decide) (fun _ => rfl) h20 (fun vq21 h22 => ?_)
    refine g_iinc hX (fun vq23 => [(4, .int vq23), (3, .int vq21), (5, .int vq13), (0, .ref (adr Y a0))]) d_T_turn_32 3 rfl rfl (by decide) (fun _ => rfl) h22 (fun vq23 h24 => ?_)
    refine g_goto hX 5 d_T_turn_35 (by decide) ?_
    refine g_sub (lv2 := [(0, .ref (adr Y a0)), (3, .int vq21), (4, .int vq23)]) [3, 1, 0] rfl ?_
    cases h24
    exact h5 (vq21, vq23, σ19) rfl
noncomputable def T_order_b1 (t : Nat) (x1 : Int32) (vq20 : Int32) (vq24 : Int32) (σ25 : Mem) : Option ((Int32 × Mem) ⊕ (Int32 × Mem)) := ((if vq24 ≤ 0 then some false else (T_part t x1 (vq24 - 1) σ25).bind (fun vq39 => (T_least t vq39 σ25).bind (fun vq43 => (T_least t vq20 σ25).bind (fun vq47 => if vq43 ≤ vq47 then some false else some true))) : Option (Bool))).bind (fun bq34 => if bq34 = true then (T_part t x1 (vq24 - 1) σ25).bind (fun vq55 => (T_setPart t x1 vq24 vq55 σ25).bind (fun σ59 => lt (vq24 + (-1)) (fun vq63 => some (.inl (vq63, σ59))))) else some (.inr (vq24, σ25)))
noncomputable def T_order_b2 (t : Nat) (x1 : Int32) (vq3 : Int32) (vq9 : Int32) (σ10 : Mem) : Option ((Int32 × Mem) ⊕ (Mem)) := if vq3 < vq9 then some (.inr σ10) else (T_part t x1 vq9 σ10).bind (fun vq20 => (lp (fun s => T_order_b1 t x1 vq20 s.1 s.2) fuel (vq9, σ10)).bind (fun q => lt q.1 (fun vq26 => lt q.2 (fun σ27 => (T_setPart t x1 vq26 vq20 σ27).bind (fun σ66 => lt (vq9 + 1) (fun vq70 => some (.inl (vq70, σ66))))))))
noncomputable def T_order (t : Nat) (x1 : Int32) (σ : Mem) : Option (Mem) := (rd σ (t + 3) x1).bind (fun vq1 => lt (vq1 - 1) (fun vq3 => (rd σ (t + 1) x1).bind (fun vq5 => if vq5 = 1 then (T_part t x1 0 σ).bind (fun vq72 => (T_least t vq72 σ).bind (fun vq76 => (T_part t x1 vq3 σ).bind (fun vq80 => (T_least t vq80 σ).bind (fun vq84 => ((if vq76 ≤ vq84 then some σ else (T_turn (t + 4) (x1 * 8) ((x1 * 8) + vq3) σ).bind (fun σ94 => some σ94) : Option (Mem))).bind (fun σ93 => some σ93))))) else (lp (fun s => T_order_b2 t x1 vq3 s.1 s.2) fuel (1, σ)).bind (fun σ11 => some σ11))))
set_option maxHeartbeats 4000000 in
set_option maxRecDepth 100000 in
theorem c_T_order (l : Launch) (Y : Wx) (t : Nat) (x1 : Int32) (ht : isT t) (σ : Mem) (o : Mem) (hf : T_order t x1 σ = some o) : Ct l Y 0 y_T_order b_T_order 6 none 1 [.ref (adr Y t), .int x1] σ none o := by
  unfold T_order at hf
  refine ct_of (by decide) (Nat.le_of_ble_eq_true rfl) rfl (fun X hXl hX hR => ?_)
  subst hXl
  have hX : Fx X Y 0 b_T_order 6 R_T 1 := hX
  refine g_aload_n hX d_T_order_0 0 rfl ?_
  refine g_getR hX (iwT ht) (shTt ht) rfl fl_T_18 d_T_order_1 ?_
  refine g_iload_n hX d_T_order_4 1 rfl ?_
  refine g_iaload hX (iwA3 ht) (shA3 ht) d_T_order_5 hf (fun vq1 h2 => ?_)
  refine g_iconst hX 1 d_T_order_6 (by decide) ?_
  refine g_isub hX d_T_order_7 ?_
  refine g_istore_n hX (fun vq3 => [(2, .int vq3), (0, .ref (adr Y t)), (1, .int x1)]) d_T_order_8 (by decide) (fun _ => rfl) h2 (fun vq3 h4 => ?_)
  refine g_aload_n hX d_T_order_9 1 rfl ?_
  refine g_getR hX (iwT ht) (shTt ht) rfl fl_T_11 d_T_order_10 ?_
  refine g_iload_n hX d_T_order_13 2 rfl ?_
  refine g_iaload hX (iwA1 ht) (shA1 ht) d_T_order_14 h4 (fun vq5 h6 => ?_)
  refine g_iconst hX 1 d_T_order_15 (by decide) ?_
  refine g_icmp_ne hX 60 d_T_order_16 (by decide) h6 (fun h7 => ?_) (fun h8 => ?_)
  · refine g_iconst hX 1 d_T_order_60 (by decide) ?_
    refine g_istore_nV hX [(3, .int 1), (2, .int vq3), (0, .ref (adr Y t)), (1, .int x1)] d_T_order_61 (by decide) rfl ?_
    obtain ⟨σ11, h15, h16⟩ := obind h7
    have KX16 : Gd X Y 0 σ11 [] 142 [] := by
      cases h16
      exact g_return hX hR d_T_order_142
    refine g_sub (lv2 := [(0, .ref (adr Y t)), (1, .int x1), (2, .int vq3), (3, .int 1)]) [2, 3, 1, 0] rfl ?_
    refine g_loop (fun s => T_order_b2 t x1 vq3 s.1 s.2) (fun s => Gd X Y 0 s.2 [(0, .ref (adr Y t)), (1, .int x1), (2, .int vq3), (3, .int s.1)] 62 []) σ11 ?_ fuel (1, σ) h15
    intro s y14 h14 h12 h13
    obtain ⟨vq9, σ10⟩ := s
    have h14 : T_order_b2 t x1 vq3 vq9 σ10 = some y14 := h14
    unfold T_order_b2 at h14
    show Gd X Y 0 σ10 [(0, .ref (adr Y t)), (1, .int x1), (2, .int vq3), (3, .int vq9)] 62 []
    refine g_iload_n hX d_T_order_62 3 rfl ?_
    refine g_iload_n hX d_T_order_63 2 rfl ?_
    refine g_icmp_gt hX 142 d_T_order_64 (by decide) h14 (fun h18 => ?_) (fun h19 => ?_)
    · refine g_sub (lv2 := []) [] rfl ?_
      cases h18
      have h17 := h13 σ10 rfl
      cases h17
      exact KX16
    · refine g_aload_n hX d_T_order_67 0 rfl ?_
      refine g_iload_n hX d_T_order_68 1 rfl ?_
      refine g_iload_n hX d_T_order_69 3 rfl ?_
      obtain ⟨vq20, h21, h22⟩ := obind h19
      refine g_callV hX [.int x1, .int vq9] [] mv_T_73 (c_T_part X.2.1 Y t x1 vq9 ht σ10 _ h21) (by decide) (iwT ht) (shTt ht) rfl rfl rfl (Nat.le_of_ble_eq_true rfl) d_T_order_70 (fun h23 => ?_)
      show Gd X Y 0 σ10 [(0, .ref (adr Y t)), (1, .int x1), (2, .int vq3), (3, .int vq9)] 73 [.int vq20]
      refine g_istoreV hX [(4, .int vq20), (0, .ref (adr Y t)), (1, .int x1), (2, .int vq3), (3, .int vq9)] d_T_order_73 (by decide) rfl ?_
      refine g_iload_n hX d_T_order_75 4 rfl ?_
      refine g_istoreV hX [(5, .int vq9), (4, .int vq20), (0, .ref (adr Y t)), (1, .int x1), (2, .int vq3), (3, .int vq9)] d_T_order_76 (by decide) rfl ?_
      obtain ⟨⟨vq26, σ27⟩, h31, h32⟩ := obind h22
      have h32 := lt2 h32
      have KX32 : Gd X Y 0 σ27 [(0, .ref (adr Y t)), (1, .int x1), (2, .int vq3), (3, .int vq9), (4, .int vq20), (5, .int vq26)] 127 [] := by
        refine g_aload_n hX d_T_order_127 0 rfl ?_
        refine g_iload_n hX d_T_order_128 1 rfl ?_
        refine g_iload hX d_T_order_129 5 rfl ?_
        refine g_iload hX d_T_order_131 4 rfl ?_
        obtain ⟨σ66, h67, h68⟩ := obind h32
        refine g_callV hX [.int x1, .int vq26, .int vq20] [] mv_T_85 (c_T_setPart X.2.1 Y t x1 vq26 vq20 ht σ27 _ h67) (by decide) (iwT ht) (shTt ht) rfl rfl rfl (Nat.le_of_ble_eq_true rfl) d_T_order_133 (fun h69 => ?_)
        show Gd X Y 0 σ66 [(0, .ref (adr Y t)), (1, .int x1), (2, .int vq3), (3, .int vq9), (4, .int vq20), (5, .int vq26)] 136 []
        refine g_iinc hX (fun vq70 => [(3, .int vq70), (0, .ref (adr Y t)), (1, .int x1), (2, .int vq3), (4, .int vq20), (5, .int vq26)]) d_T_order_136 3 rfl rfl (by decide) (fun _ => rfl) h68 (fun vq70 h71 => ?_)
        refine g_goto hX 62 d_T_order_139 (by decide) ?_
        refine g_sub (lv2 := [(0, .ref (adr Y t)), (1, .int x1), (2, .int vq3), (3, .int vq70)]) [1, 2, 3, 0] rfl ?_
        cases h71
        exact h12 (vq70, σ66) rfl
      refine g_sub (lv2 := [(0, .ref (adr Y t)), (1, .int x1), (2, .int vq3), (3, .int vq9), (4, .int vq20), (5, .int vq9)]) [2, 3, 4, 5, 1, 0] rfl ?_
      refine g_loop (fun s => T_order_b1 t x1 vq20 s.1 s.2) (fun s => Gd X Y 0 s.2 [(0, .ref (adr Y t)), (1, .int x1), (2, .int vq3), (3, .int vq9), (4, .int vq20), (5, .int s.1)] 78 []) (vq26, σ27) ?_ fuel (vq9, σ10) h31
      intro s y30 h30 h28 h29
      obtain ⟨vq24, σ25⟩ := s
      have h30 : T_order_b1 t x1 vq20 vq24 σ25 = some y30 := h30
      unfold T_order_b1 at h30
      show Gd X Y 0 σ25 [(0, .ref (adr Y t)), (1, .int x1), (2, .int vq3), (3, .int vq9), (4, .int vq20), (5, .int vq24)] 78 []
      refine g_iload hX d_T_order_78 5 rfl ?_
      obtain ⟨bq34, h35, h36⟩ := obind h30
      have Kbq34t : bq34 = true → Gd X Y 0 σ25 [(0, .ref (adr Y t)), (1, .int x1), (2, .int vq3), (3, .int vq9), (4, .int vq20), (5, .int vq24)] 105 [] := by
        intro h65
        have h53 := (if_pos h65).symm.trans h36
        refine g_aload_n hX d_T_order_105 0 rfl ?_
        refine g_iload_n hX d_T_order_106 1 rfl ?_
        refine g_iload hX d_T_order_107 5 rfl ?_
        refine g_aload_n hX d_T_order_109 0 rfl ?_
        refine g_iload_n hX d_T_order_110 1 rfl ?_
        refine g_iload hX d_T_order_111 5 rfl ?_
        refine g_iconst hX 1 d_T_order_113 (by decide) ?_
        refine g_isub hX d_T_order_114 ?_
        obtain ⟨vq55, h56, h57⟩ := obind h53
        refine g_callV hX [.int x1, .int (vq24 - 1)] [.int vq24, .int x1, .ref (adr Y t)] mv_T_73 (c_T_part X.2.1 Y t x1 (vq24 - 1) ht σ25 _ h56) (by decide) (iwT ht) (shTt ht) rfl rfl rfl (Nat.le_of_ble_eq_true rfl) d_T_order_115 (fun h58 => ?_)
        show Gd X Y 0 σ25 [(0, .ref (adr Y t)), (1, .int x1), (2, .int vq3), (3, .int vq9), (4, .int vq20), (5, .int vq24)] 118 [.int vq55, .int vq24, .int x1, .ref (adr Y t)]
        obtain ⟨σ59, h60, h61⟩ := obind h57
        refine g_callV hX [.int x1, .int vq24, .int vq55] [] mv_T_85 (c_T_setPart X.2.1 Y t x1 vq24 vq55 ht σ25 _ h60) (by decide) (iwT ht) (shTt ht) rfl rfl rfl (Nat.le_of_ble_eq_true rfl) d_T_order_118 (fun h62 => ?_)
        show Gd X Y 0 σ59 [(0, .ref (adr Y t)), (1, .int x1), (2, .int vq3), (3, .int vq9), (4, .int vq20), (5, .int vq24)] 121 []
        refine g_iinc hX (fun vq63 => [(5, .int vq63), (0, .ref (adr Y t)), (1, .int x1), (2, .int vq3), (3, .int vq9), (4, .int vq20)]) d_T_order_121 5 rfl rfl (by decide) (fun _ => rfl) h61 (fun vq63 h64 => ?_)
        refine g_goto hX 78 d_T_order_124 (by decide) ?_
        refine g_sub (lv2 := [(0, .ref (adr Y t)), (1, .int x1), (2, .int vq3), (3, .int vq9), (4, .int vq20), (5, .int vq63)]) [1, 2, 3, 4, 5, 0] rfl ?_
        cases h64
        exact h28 (vq63, σ59) rfl
      have Kbq34f : ¬ bq34 = true → Gd X Y 0 σ25 [(0, .ref (adr Y t)), (1, .int x1), (2, .int vq3), (3, .int vq9), (4, .int vq20), (5, .int vq24)] 127 [] := by
        intro h65
        have h54 := (if_neg h65).symm.trans h36
        refine g_sub (lv2 := [(0, .ref (adr Y t)), (1, .int x1), (2, .int vq3), (3, .int vq9), (4, .int vq20), (5, .int vq24)]) [0, 1, 2, 3, 4, 5] rfl ?_
        cases h54
        have h33 := h29 (vq24, σ25) rfl
        cases h33
        exact KX32
      refine g_if_le hX 127 d_T_order_80 (by decide) h35 (fun h37 => ?_) (fun h38 => ?_)
      · cases h37
        exact Kbq34f (by decide)
      · refine g_aload_n hX d_T_order_83 0 rfl ?_
        refine g_aload_n hX d_T_order_84 0 rfl ?_
        refine g_iload_n hX d_T_order_85 1 rfl ?_
        refine g_iload hX d_T_order_86 5 rfl ?_
        refine g_iconst hX 1 d_T_order_88 (by decide) ?_
        refine g_isub hX d_T_order_89 ?_
        obtain ⟨vq39, h40, h41⟩ := obind h38
        refine g_callV hX [.int x1, .int (vq24 - 1)] [.ref (adr Y t)] mv_T_73 (c_T_part X.2.1 Y t x1 (vq24 - 1) ht σ25 _ h40) (by decide) (iwT ht) (shTt ht) rfl rfl rfl (Nat.le_of_ble_eq_true rfl) d_T_order_90 (fun h42 => ?_)
        show Gd X Y 0 σ25 [(0, .ref (adr Y t)), (1, .int x1), (2, .int vq3), (3, .int vq9), (4, .int vq20), (5, .int vq24)] 93 [.int vq39, .ref (adr Y t)]
        obtain ⟨vq43, h44, h45⟩ := obind h41
        refine g_callV hX [.int vq39] [] mv_T_77 (c_T_least X.2.1 Y t vq39 ht σ25 _ h44) (by decide) (iwT ht) (shTt ht) rfl rfl rfl (Nat.le_of_ble_eq_true rfl) d_T_order_93 (fun h46 => ?_)
        show Gd X Y 0 σ25 [(0, .ref (adr Y t)), (1, .int x1), (2, .int vq3), (3, .int vq9), (4, .int vq20), (5, .int vq24)] 96 [.int vq43]
        refine g_aload_n hX d_T_order_96 0 rfl ?_
        refine g_iload hX d_T_order_97 4 rfl ?_
        obtain ⟨vq47, h48, h49⟩ := obind h45
        refine g_callV hX [.int vq20] [.int vq43] mv_T_77 (c_T_least X.2.1 Y t vq20 ht σ25 _ h48) (by decide) (iwT ht) (shTt ht) rfl rfl rfl (Nat.le_of_ble_eq_true rfl) d_T_order_99 (fun h50 => ?_)
        show Gd X Y 0 σ25 [(0, .ref (adr Y t)), (1, .int x1), (2, .int vq3), (3, .int vq9), (4, .int vq20), (5, .int vq24)] 102 [.int vq47, .int vq43]
        refine g_icmp_le hX 127 d_T_order_102 (by decide) h49 (fun h51 => ?_) (fun h52 => ?_)
        · cases h51
          exact Kbq34f (by decide)
        · cases h52
          exact Kbq34t rfl
  · refine g_aload_n hX d_T_order_19 1 rfl ?_
    refine g_aload_n hX d_T_order_20 1 rfl ?_
    refine g_iload_n hX d_T_order_21 2 rfl ?_
    refine g_iconst hX 0 d_T_order_22 (by decide) ?_
    obtain ⟨vq72, h73, h74⟩ := obind h8
    refine g_callV hX [.int x1, .int 0] [.ref (adr Y t)] mv_T_73 (c_T_part X.2.1 Y t x1 0 ht σ _ h73) (by decide) (iwT ht) (shTt ht) rfl rfl rfl (Nat.le_of_ble_eq_true rfl) d_T_order_23 (fun h75 => ?_)
    show Gd X Y 0 σ [(2, .int vq3), (0, .ref (adr Y t)), (1, .int x1)] 26 [.int vq72, .ref (adr Y t)]
    obtain ⟨vq76, h77, h78⟩ := obind h74
    refine g_callV hX [.int vq72] [] mv_T_77 (c_T_least X.2.1 Y t vq72 ht σ _ h77) (by decide) (iwT ht) (shTt ht) rfl rfl rfl (Nat.le_of_ble_eq_true rfl) d_T_order_26 (fun h79 => ?_)
    show Gd X Y 0 σ [(2, .int vq3), (0, .ref (adr Y t)), (1, .int x1)] 29 [.int vq76]
    refine g_aload_n hX d_T_order_29 1 rfl ?_
    refine g_aload_n hX d_T_order_30 1 rfl ?_
    refine g_iload_n hX d_T_order_31 2 rfl ?_
    refine g_iload_n hX d_T_order_32 0 rfl ?_
    obtain ⟨vq80, h81, h82⟩ := obind h78
    refine g_callV hX [.int x1, .int vq3] [.ref (adr Y t), .int vq76] mv_T_73 (c_T_part X.2.1 Y t x1 vq3 ht σ _ h81) (by decide) (iwT ht) (shTt ht) rfl rfl rfl (Nat.le_of_ble_eq_true rfl) d_T_order_33 (fun h83 => ?_)
    show Gd X Y 0 σ [(2, .int vq3), (0, .ref (adr Y t)), (1, .int x1)] 36 [.int vq80, .ref (adr Y t), .int vq76]
    obtain ⟨vq84, h85, h86⟩ := obind h82
    refine g_callV hX [.int vq80] [.int vq76] mv_T_77 (c_T_least X.2.1 Y t vq80 ht σ _ h85) (by decide) (iwT ht) (shTt ht) rfl rfl rfl (Nat.le_of_ble_eq_true rfl) d_T_order_36 (fun h87 => ?_)
    show Gd X Y 0 σ [(2, .int vq3), (0, .ref (adr Y t)), (1, .int x1)] 39 [.int vq84, .int vq76]
    obtain ⟨σ93, h88, h89⟩ := obind h86
    have KJ89 : Gd X Y 0 σ93 [] 59 [] := by
      cases h89
      exact g_return hX hR d_T_order_59
    refine g_icmp_le hX 59 d_T_order_39 (by decide) h88 (fun h91 => ?_) (fun h92 => ?_)
    · refine g_sub (lv2 := []) [] rfl ?_
      cases h91
      exact KJ89
    · refine g_aload_n hX d_T_order_42 1 rfl ?_
      refine g_getR hX (iwT ht) (shTt ht) rfl fl_T_21 d_T_order_43 ?_
      refine g_iload_n hX d_T_order_46 2 rfl ?_
      refine g_bipush hX 8 d_T_order_47 (by decide) ?_
      refine g_imul hX d_T_order_49 ?_
      refine g_iload_n hX d_T_order_50 2 rfl ?_
      refine g_bipush hX 8 d_T_order_51 (by decide) ?_
      refine g_imul hX d_T_order_53 ?_
      refine g_iload_n hX d_T_order_54 0 rfl ?_
      refine g_iadd hX d_T_order_55 ?_
      obtain ⟨σ94, h95, h96⟩ := obind h92
      refine g_callS hX [.ref (adr Y (t + 4)), .int (x1 * 8), .int ((x1 * 8) + vq3)] [] mv_T_81 (c_T_turn X.2.1 Y (t + 4) (x1 * 8) ((x1 * 8) + vq3) (isA4 ht) σ _ h95) (by decide) rfl rfl (Nat.le_of_ble_eq_true rfl) d_T_order_56 (fun h97 => ?_)
      show Gd X Y 0 σ94 [(2, .int vq3), (0, .ref (adr Y t)), (1, .int x1)] 59 []
      refine g_sub (lv2 := []) [] rfl ?_
      cases h96
      exact KJ89
noncomputable def T_place_b1 (rec : Nat → Int32 → Nat → Int32 → Mem → Option (Int32 × Mem)) (t0 : Nat) (x1 : Int32) (t2 : Nat) (x3 : Int32) (vq12 : Int32) (vq24 : Int32) (σ25 : Mem) : Option ((Int32 × Mem) ⊕ (Mem)) := (rd σ25 (t0 + 3) x1).bind (fun vq33 => if vq33 ≤ vq24 then some (.inr σ25) else (T_part t0 x1 vq24 σ25).bind (fun vq37 => (rec t0 vq37 t2 (x3 + 1) σ25).bind (fun q => lt q.1 (fun vq41 => lt q.2 (fun σ42 => (T_add t2 vq12 vq41 σ42).bind (fun σ46 => lt (vq24 + 1) (fun vq50 => some (.inl (vq50, σ46)))))))))
noncomputable def T_placeB (rec : Nat → Int32 → Nat → Int32 → Mem → Option (Int32 × Mem)) (t0 : Nat) (x1 : Int32) (t2 : Nat) (x3 : Int32) (σ : Mem) : Option (Int32 × Mem) := if 8 ≤ x1 then lt (if 8 ≤ x3 then true else if (σ t2 5) < 7 then false else true : Bool) (fun bq3 => if bq3 = true then some (0, σ) else lt (8 + (σ t2 5)) (fun vq12 => lt (mput σ t2 5 ((σ t2 5) + 1)) (fun σ14 => (rd σ14 (t0 + 1) x1).bind (fun vq16 => (wr σ14 (t2 + 1) vq12 vq16).bind (fun σ18 => (T_order t0 x1 σ18).bind (fun σ20 => (lp (fun s => T_place_b1 rec t0 x1 t2 x3 vq12 s.1 s.2) fuel (0, σ20)).bind (fun σ26 => some (vq12, σ26)))))))) else some (x1, σ)
noncomputable def T_place : Nat → Nat → Int32 → Nat → Int32 → Mem → Option (Int32 × Mem)
  | 0, _, _, _, _, _ => none
  | fu + 1, t0, x1, t2, x3, σ => T_placeB (T_place fu) t0 x1 t2 x3 σ
set_option maxHeartbeats 4000000 in
set_option maxRecDepth 100000 in
theorem c_T_place : ∀ (fu : Nat) (l : Launch) (Y : Wx) (t0 : Nat) (x1 : Int32) (t2 : Nat) (x3 : Int32) (ht0 : isT t0) (ht2 : isT t2) (σ : Mem) (o : Int32 × Mem), T_place fu t0 x1 t2 x3 σ = some o → Ct l Y 0 y_T_place b_T_place 6 (some .int) (2 + fu) [.ref (adr Y t0), .int x1, .ref (adr Y t2), .int x3] σ (some (.int o.1)) o.2 := by
  intro fu
  induction fu with
  | zero => intro l Y t0 x1 t2 x3 ht0 ht2 σ o hf; cases hf
  | succ fu hrec0 =>
  intro l Y t0 x1 t2 x3 ht0 ht2 σ o hf
  have hf : T_placeB (T_place fu) t0 x1 t2 x3 σ = some o := hf
  generalize T_place fu = rec at hf hrec0
  unfold T_placeB at hf
  refine ct_of (by decide) (Nat.le_of_ble_eq_true rfl) rfl (fun X hXl hX hR => ?_)
  subst hXl
  have hrec := hrec0 X.2.1
  have hX : Fx X Y 0 b_T_place 6 R_T (2 + (fu + 1)) := hX
  refine g_iload_n hX d_T_place_0 1 rfl ?_
  refine g_bipush hX 8 d_T_place_1 (by decide) ?_
  refine g_icmp_ge hX 8 d_T_place_3 (by decide) hf (fun h1 => ?_) (fun h2 => ?_)
  · refine g_iload_n hX d_T_place_8 3 rfl ?_
    refine g_bipush hX 8 d_T_place_9 (by decide) ?_
    obtain ⟨bq3, h4, h5⟩ := ltex h1
    have Kbq3t : bq3 = true → Gd X Y 0 σ [(0, .ref (adr Y t0)), (1, .int x1), (2, .ref (adr Y t2)), (3, .int x3)] 23 [] := by
      intro h52
      have h10 := (if_pos h52).symm.trans h5
      refine g_iconst hX 0 d_T_place_23 (by decide) ?_
      cases h10
      exact g_ireturn hX hR d_T_place_24
    have Kbq3f : ¬ bq3 = true → Gd X Y 0 σ [(0, .ref (adr Y t0)), (1, .int x1), (2, .ref (adr Y t2)), (3, .int x3)] 25 [] := by
      intro h52
      have h11 := (if_neg h52).symm.trans h5
      refine g_bipush hX 8 d_T_place_25 (by decide) ?_
      refine g_aload_n hX d_T_place_27 2 rfl ?_
      refine g_getI hX (iwT ht2) (shTt ht2) rfl fl_T_28.f d_T_place_28 ?_
      refine g_iadd hX d_T_place_31 ?_
      refine g_istore hX (fun vq12 => [(4, .int vq12), (0, .ref (adr Y t0)), (1, .int x1), (2, .ref (adr Y t2)), (3, .int x3)]) d_T_place_32 (by decide) (fun _ => rfl) h11 (fun vq12 h13 => ?_)
      refine g_aload_n hX d_T_place_34 3 rfl ?_
      refine g_dup hX d_T_place_35 rfl ?_
      refine g_getI hX (iwT ht2) (shTt ht2) rfl fl_T_28.f d_T_place_36 ?_
      refine g_iconst hX 1 d_T_place_39 (by decide) ?_
      refine g_iadd hX d_T_place_40 ?_
      refine g_putI hX (iwT ht2) (shTt ht2) rfl fl_T_28 d_T_place_41 h13 (fun σ14 h15 => ?_)
      refine g_aload_n hX d_T_place_44 3 rfl ?_
      refine g_getR hX (iwT ht2) (shTt ht2) rfl fl_T_11 d_T_place_45 ?_
      refine g_iload hX d_T_place_48 0 rfl ?_
      refine g_aload_n hX d_T_place_50 1 rfl ?_
      refine g_getR hX (iwT ht0) (shTt ht0) rfl fl_T_11 d_T_place_51 ?_
      refine g_iload_n hX d_T_place_54 2 rfl ?_
      refine g_iaload hX (iwA1 ht0) (shA1 ht0) d_T_place_55 h15 (fun vq16 h17 => ?_)
      refine g_iastore hX (iwA1 ht2) (shA1 ht2) d_T_place_56 h17 (fun σ18 h19 => ?_)
      refine g_aload_n hX d_T_place_57 1 rfl ?_
      refine g_iload_n hX d_T_place_58 2 rfl ?_
      obtain ⟨σ20, h21, h22⟩ := obind h19
      refine g_callV hX [.int x1] [] mv_T_69 (c_T_order X.2.1 Y t0 x1 ht0 σ18 _ h21) (by omega) (iwT ht0) (shTt ht0) rfl rfl rfl (Nat.le_of_ble_eq_true rfl) d_T_place_59 (fun h23 => ?_)
      show Gd X Y 0 σ20 [(4, .int vq12), (0, .ref (adr Y t0)), (1, .int x1), (2, .ref (adr Y t2)), (3, .int x3)] 62 []
      refine g_iconst hX 0 d_T_place_62 (by decide) ?_
      refine g_istoreV hX [(5, .int 0), (4, .int vq12), (0, .ref (adr Y t0)), (1, .int x1), (2, .ref (adr Y t2)), (3, .int x3)] d_T_place_63 (by decide) rfl ?_
      obtain ⟨σ26, h30, h31⟩ := obind h22
      have KX31 : Gd X Y 0 σ26 [(4, .int vq12)] 103 [] := by
        refine g_iload hX d_T_place_103 0 rfl ?_
        cases h31
        exact g_ireturn hX hR d_T_place_105
      refine g_sub (lv2 := [(0, .ref (adr Y t0)), (1, .int x1), (2, .ref (adr Y t2)), (3, .int x3), (4, .int vq12), (5, .int 0)]) [2, 3, 4, 5, 1, 0] rfl ?_
      refine g_loop (fun s => T_place_b1 rec t0 x1 t2 x3 vq12 s.1 s.2) (fun s => Gd X Y 0 s.2 [(0, .ref (adr Y t0)), (1, .int x1), (2, .ref (adr Y t2)), (3, .int x3), (4, .int vq12), (5, .int s.1)] 65 []) σ26 ?_ fuel (0, σ20) h30
      intro s y29 h29 h27 h28
      obtain ⟨vq24, σ25⟩ := s
      have h29 : T_place_b1 rec t0 x1 t2 x3 vq12 vq24 σ25 = some y29 := h29
      unfold T_place_b1 at h29
      show Gd X Y 0 σ25 [(0, .ref (adr Y t0)), (1, .int x1), (2, .ref (adr Y t2)), (3, .int x3), (4, .int vq12), (5, .int vq24)] 65 []
      refine g_iload hX d_T_place_65 5 rfl ?_
      refine g_aload_n hX d_T_place_67 0 rfl ?_
      refine g_getR hX (iwT ht0) (shTt ht0) rfl fl_T_18 d_T_place_68 ?_
      refine g_iload_n hX d_T_place_71 1 rfl ?_
      refine g_iaload hX (iwA3 ht0) (shA3 ht0) d_T_place_72 h29 (fun vq33 h34 => ?_)
      refine g_icmp_ge hX 103 d_T_place_73 (by decide) h34 (fun h35 => ?_) (fun h36 => ?_)
      · refine g_sub (lv2 := [(4, .int vq12)]) [4] rfl ?_
        cases h35
        have h32 := h28 σ25 rfl
        cases h32
        exact KX31
      · refine g_aload_n hX d_T_place_76 2 rfl ?_
        refine g_iload hX d_T_place_77 4 rfl ?_
        refine g_aload_n hX d_T_place_79 0 rfl ?_
        refine g_aload_n hX d_T_place_80 0 rfl ?_
        refine g_iload_n hX d_T_place_81 1 rfl ?_
        refine g_iload hX d_T_place_82 5 rfl ?_
        obtain ⟨vq37, h38, h39⟩ := obind h36
        refine g_callV hX [.int x1, .int vq24] [.ref (adr Y t0), .int vq12, .ref (adr Y t2)] mv_T_73 (c_T_part X.2.1 Y t0 x1 vq24 ht0 σ25 _ h38) (by omega) (iwT ht0) (shTt ht0) rfl rfl rfl (Nat.le_of_ble_eq_true rfl) d_T_place_84 (fun h40 => ?_)
        show Gd X Y 0 σ25 [(0, .ref (adr Y t0)), (1, .int x1), (2, .ref (adr Y t2)), (3, .int x3), (4, .int vq12), (5, .int vq24)] 87 [.int vq37, .ref (adr Y t0), .int vq12, .ref (adr Y t2)]
        refine g_aload_n hX d_T_place_87 2 rfl ?_
        refine g_iload_n hX d_T_place_88 3 rfl ?_
        refine g_iconst hX 1 d_T_place_89 (by decide) ?_
        refine g_iadd hX d_T_place_90 ?_
        obtain ⟨⟨vq41, σ42⟩, h43, h44⟩ := obind h39
        have h44 := lt2 h44
        refine g_callS hX [.ref (adr Y t0), .int vq37, .ref (adr Y t2), .int (x3 + 1)] [.int vq12, .ref (adr Y t2)] mv_T_65 (hrec Y t0 vq37 t2 (x3 + 1) ht0 ht2 σ25 _ h43) (by omega) rfl rfl (Nat.le_of_ble_eq_true rfl) d_T_place_91 (fun h45 => ?_)
        show Gd X Y 0 σ42 [(0, .ref (adr Y t0)), (1, .int x1), (2, .ref (adr Y t2)), (3, .int x3), (4, .int vq12), (5, .int vq24)] 94 [.int vq41, .int vq12, .ref (adr Y t2)]
        obtain ⟨σ46, h47, h48⟩ := obind h44
        refine g_callV hX [.int vq12, .int vq41] [] mv_T_61 (c_T_add X.2.1 Y t2 vq12 vq41 ht2 σ42 _ h47) (by omega) (iwT ht2) (shTt ht2) rfl rfl rfl (Nat.le_of_ble_eq_true rfl) d_T_place_94 (fun h49 => ?_)
        show Gd X Y 0 σ46 [(0, .ref (adr Y t0)), (1, .int x1), (2, .ref (adr Y t2)), (3, .int x3), (4, .int vq12), (5, .int vq24)] 97 []
        refine g_iinc hX (fun vq50 => [(5, .int vq50), (0, .ref (adr Y t0)), (1, .int x1), (2, .ref (adr Y t2)), (3, .int x3), (4, .int vq12)]) d_T_place_97 5 rfl rfl (by decide) (fun _ => rfl) h48 (fun vq50 h51 => ?_)
        refine g_goto hX 65 d_T_place_100 (by decide) ?_
        refine g_sub (lv2 := [(0, .ref (adr Y t0)), (1, .int x1), (2, .ref (adr Y t2)), (3, .int x3), (4, .int vq12), (5, .int vq50)]) [1, 2, 3, 4, 5, 0] rfl ?_
        cases h51
        exact h27 (vq50, σ46) rfl
    refine g_icmp_ge hX 23 d_T_place_11 (by decide) h4 (fun h6 => ?_) (fun h7 => ?_)
    · cases h6
      exact Kbq3t rfl
    · refine g_aload_n hX d_T_place_14 2 rfl ?_
      refine g_getI hX (iwT ht2) (shTt ht2) rfl fl_T_28.f d_T_place_15 ?_
      refine g_bipush hX 7 d_T_place_18 (by decide) ?_
      refine g_icmp_lt hX 25 d_T_place_20 (by decide) h7 (fun h8 => ?_) (fun h9 => ?_)
      · cases h8
        exact Kbq3f (by decide)
      · cases h9
        exact Kbq3t rfl
  · refine g_iload_n hX d_T_place_6 1 rfl ?_
    cases h2
    exact g_ireturn hX hR d_T_place_7
noncomputable def T_draw (t : Nat) (t1 : Nat) (σ : Mem) : Option (Mem) := (T_clear t σ).bind (fun σ1 => (T_place 24 t1 (σ1 t1 4) t 0 σ1).bind (fun q => lt q.1 (fun vq5 => lt q.2 (fun σ6 => lt (mput σ6 t 4 vq5) (fun σ10 => some σ10)))))
set_option maxHeartbeats 4000000 in
set_option maxRecDepth 100000 in
theorem c_T_draw (l : Launch) (Y : Wx) (t : Nat) (t1 : Nat) (ht : isT t) (ht1 : isT t1) (σ : Mem) (o : Mem) (hf : T_draw t t1 σ = some o) : Ct l Y 0 y_T_draw b_T_draw 2 none 27 [.ref (adr Y t), .ref (adr Y t1)] σ none o := by
  unfold T_draw at hf
  refine ct_of (by decide) (Nat.le_of_ble_eq_true rfl) rfl (fun X hXl hX hR => ?_)
  subst hXl
  have hX : Fx X Y 0 b_T_draw 2 R_T 27 := hX
  refine g_aload_n hX d_T_draw_0 0 rfl ?_
  obtain ⟨σ1, h2, h3⟩ := obind hf
  refine g_callV hX [] [] mv_T_58 (c_T_clear X.2.1 Y t ht σ _ h2) (by decide) (iwT ht) (shTt ht) rfl rfl rfl (Nat.le_of_ble_eq_true rfl) d_T_draw_1 (fun h4 => ?_)
  show Gd X Y 0 σ1 [(0, .ref (adr Y t)), (1, .ref (adr Y t1))] 4 []
  refine g_aload_n hX d_T_draw_4 0 rfl ?_
  refine g_aload_n hX d_T_draw_5 1 rfl ?_
  refine g_aload_n hX d_T_draw_6 1 rfl ?_
  refine g_getI hX (iwT ht1) (shTt ht1) rfl fl_T_24.f d_T_draw_7 ?_
  refine g_aload_n hX d_T_draw_10 0 rfl ?_
  refine g_iconst hX 0 d_T_draw_11 (by decide) ?_
  obtain ⟨⟨vq5, σ6⟩, h7, h8⟩ := obind h3
  have h8 := lt2 h8
  refine g_callS hX [.ref (adr Y t1), .int (σ1 t1 4), .ref (adr Y t), .int 0] [.ref (adr Y t)] mv_T_65 (c_T_place 24 X.2.1 Y t1 (σ1 t1 4) t 0 ht1 ht σ1 _ h7) (by omega) rfl rfl (Nat.le_of_ble_eq_true rfl) d_T_draw_12 (fun h9 => ?_)
  show Gd X Y 0 σ6 [(0, .ref (adr Y t)), (1, .ref (adr Y t1))] 15 [.int vq5, .ref (adr Y t)]
  refine g_putI hX (iwT ht) (shTt ht) rfl fl_T_24 d_T_draw_15 h8 (fun σ10 h11 => ?_)
  cases h11
  exact g_return hX hR d_T_draw_18
noncomputable def J_bitCount (x0 : Int32) : Int32 := lt (x0 - (((Int32.toUInt32 x0 >>> (Int32.toUInt32 1 &&& Int32.toUInt32 31)).toInt32) &&& 1431655765)) (fun vq1 => lt ((vq1 &&& 858993459) + (((Int32.toUInt32 vq1 >>> (Int32.toUInt32 2 &&& Int32.toUInt32 31)).toInt32) &&& 858993459)) (fun vq3 => lt ((vq3 + ((Int32.toUInt32 vq3 >>> (Int32.toUInt32 4 &&& Int32.toUInt32 31)).toInt32)) &&& 252645135) (fun vq5 => lt (vq5 + ((Int32.toUInt32 vq5 >>> (Int32.toUInt32 8 &&& Int32.toUInt32 31)).toInt32)) (fun vq7 => lt (vq7 + ((Int32.toUInt32 vq7 >>> (Int32.toUInt32 16 &&& Int32.toUInt32 31)).toInt32)) (fun vq9 => (vq9 &&& 63))))))
set_option maxHeartbeats 4000000 in
set_option maxRecDepth 100000 in
theorem c_J_bitCount (l : Launch) (Y : Wx) (x0 : Int32)  (σ : Mem) (o : Int32) (hf : J_bitCount x0 = o) : Ct l Y 0 y_J_bitCount b_J_bitCount 1 (some .int) 0 [.int x0] σ (some (.int o)) σ := by
  unfold J_bitCount at hf
  refine ct_of (by decide) (Nat.le_of_ble_eq_true rfl) rfl (fun X hXl hX hR => ?_)
  subst hXl
  have hX : Fx X Y 0 b_J_bitCount 1 R_J 0 := hX
  refine g_iload_n hX d_J_bitCount_0 0 rfl ?_
  refine g_iload_n hX d_J_bitCount_1 0 rfl ?_
  refine g_iconst hX 1 d_J_bitCount_2 (by decide) ?_
  refine g_iushr hX d_J_bitCount_3 ?_
  refine g_ldcw hX d_J_bitCount_4 q_90 ?_
  refine g_iand hX d_J_bitCount_7 ?_
  refine g_isub hX d_J_bitCount_8 ?_
  refine g_istore_n hX (fun vq1 => [(0, .int vq1)]) d_J_bitCount_9 (by decide) (fun _ => rfl) hf (fun vq1 h2 => ?_)
  refine g_iload_n hX d_J_bitCount_10 0 rfl ?_
  refine g_ldcw hX d_J_bitCount_11 q_91 ?_
  refine g_iand hX d_J_bitCount_14 ?_
  refine g_iload_n hX d_J_bitCount_15 0 rfl ?_
  refine g_iconst hX 2 d_J_bitCount_16 (by decide) ?_
  refine g_iushr hX d_J_bitCount_17 ?_
  refine g_ldcw hX d_J_bitCount_18 q_91 ?_
  refine g_iand hX d_J_bitCount_21 ?_
  refine g_iadd hX d_J_bitCount_22 ?_
  refine g_istore_n hX (fun vq3 => [(0, .int vq3)]) d_J_bitCount_23 (by decide) (fun _ => rfl) h2 (fun vq3 h4 => ?_)
  refine g_iload_n hX d_J_bitCount_24 0 rfl ?_
  refine g_iload_n hX d_J_bitCount_25 0 rfl ?_
  refine g_iconst hX 4 d_J_bitCount_26 (by decide) ?_
  refine g_iushr hX d_J_bitCount_27 ?_
  refine g_iadd hX d_J_bitCount_28 ?_
  refine g_ldcw hX d_J_bitCount_29 q_92 ?_
  refine g_iand hX d_J_bitCount_32 ?_
  refine g_istore_n hX (fun vq5 => [(0, .int vq5)]) d_J_bitCount_33 (by decide) (fun _ => rfl) h4 (fun vq5 h6 => ?_)
  refine g_iload_n hX d_J_bitCount_34 0 rfl ?_
  refine g_iload_n hX d_J_bitCount_35 0 rfl ?_
  refine g_bipush hX 8 d_J_bitCount_36 (by decide) ?_
  refine g_iushr hX d_J_bitCount_38 ?_
  refine g_iadd hX d_J_bitCount_39 ?_
  refine g_istore_n hX (fun vq7 => [(0, .int vq7)]) d_J_bitCount_40 (by decide) (fun _ => rfl) h6 (fun vq7 h8 => ?_)
  refine g_iload_n hX d_J_bitCount_41 0 rfl ?_
  refine g_iload_n hX d_J_bitCount_42 0 rfl ?_
  refine g_bipush hX 16 d_J_bitCount_43 (by decide) ?_
  refine g_iushr hX d_J_bitCount_45 ?_
  refine g_iadd hX d_J_bitCount_46 ?_
  refine g_istore_n hX (fun vq9 => [(0, .int vq9)]) d_J_bitCount_47 (by decide) (fun _ => rfl) h8 (fun vq9 h10 => ?_)
  refine g_iload_n hX d_J_bitCount_48 0 rfl ?_
  refine g_bipush hX 63 d_J_bitCount_49 (by decide) ?_
  refine g_iand hX d_J_bitCount_51 ?_
  cases h10
  exact g_ireturn hX hR d_J_bitCount_52
noncomputable def T_giveBackSplit_b1 (t : Nat) (vq1 : Int32) (σ2 : Mem) : Option ((Int32 × Mem) ⊕ (Mem)) := if (σ2 t 11) ≤ vq1 then some (.inr σ2) else (rd σ2 (t + 7) vq1).bind (fun vq12 => (wr σ2 (t + 3) vq12 0).bind (fun σ14 => lt (vq1 + 1) (fun vq16 => some (.inl (vq16, σ14)))))
noncomputable def T_giveBackSplit (t : Nat) (σ : Mem) : Option (Mem) := (lp (fun s => T_giveBackSplit_b1 t s.1 s.2) fuel (0, σ)).bind (fun σ3 => some σ3)
set_option maxHeartbeats 4000000 in
set_option maxRecDepth 100000 in
theorem c_T_giveBackSplit (l : Launch) (Y : Wx) (t : Nat) (ht : isT t) (σ : Mem) (o : Mem) (hf : T_giveBackSplit t σ = some o) : Ct l Y 0 y_T_giveBackSplit b_T_giveBackSplit 2 none 0 [.ref (adr Y t)] σ none o := by
  unfold T_giveBackSplit at hf
  refine ct_of (by decide) (Nat.le_of_ble_eq_true rfl) rfl (fun X hXl hX hR => ?_)
  subst hXl
  have hX : Fx X Y 0 b_T_giveBackSplit 2 R_T 0 := hX
  refine g_iconst hX 0 d_T_giveBackSplit_0 (by decide) ?_
  refine g_istore_nV hX [(1, .int 0), (0, .ref (adr Y t))] d_T_giveBackSplit_1 (by decide) rfl ?_
  obtain ⟨σ3, h7, h8⟩ := obind hf
  have KX8 : Gd X Y 0 σ3 [] 28 [] := by
    cases h8
    exact g_return hX hR d_T_giveBackSplit_28
  refine g_sub (lv2 := [(0, .ref (adr Y t)), (1, .int 0)]) [1, 0] rfl ?_
  refine g_loop (fun s => T_giveBackSplit_b1 t s.1 s.2) (fun s => Gd X Y 0 s.2 [(0, .ref (adr Y t)), (1, .int s.1)] 2 []) σ3 ?_ fuel (0, σ) h7
  intro s y6 h6 h4 h5
  obtain ⟨vq1, σ2⟩ := s
  have h6 : T_giveBackSplit_b1 t vq1 σ2 = some y6 := h6
  unfold T_giveBackSplit_b1 at h6
  show Gd X Y 0 σ2 [(0, .ref (adr Y t)), (1, .int vq1)] 2 []
  refine g_iload_n hX d_T_giveBackSplit_2 1 rfl ?_
  refine g_aload_n hX d_T_giveBackSplit_3 0 rfl ?_
  refine g_getI hX (iwT ht) (shTt ht) rfl fl_T_46.f d_T_giveBackSplit_4 ?_
  refine g_icmp_ge hX 28 d_T_giveBackSplit_7 (by decide) h6 (fun h10 => ?_) (fun h11 => ?_)
  · refine g_sub (lv2 := []) [] rfl ?_
    cases h10
    have h9 := h5 σ2 rfl
    cases h9
    exact KX8
  · refine g_aload_n hX d_T_giveBackSplit_10 0 rfl ?_
    refine g_getR hX (iwT ht) (shTt ht) rfl fl_T_18 d_T_giveBackSplit_11 ?_
    refine g_aload_n hX d_T_giveBackSplit_14 0 rfl ?_
    refine g_getR hX (iwT ht) (shTt ht) rfl fl_T_43 d_T_giveBackSplit_15 ?_
    refine g_iload_n hX d_T_giveBackSplit_18 1 rfl ?_
    refine g_iaload hX (iwA7 ht) (shA7 ht) d_T_giveBackSplit_19 h11 (fun vq12 h13 => ?_)
    refine g_iconst hX 0 d_T_giveBackSplit_20 (by decide) ?_
    refine g_iastore hX (iwA3 ht) (shA3 ht) d_T_giveBackSplit_21 h13 (fun σ14 h15 => ?_)
    refine g_iinc hX (fun vq16 => [(1, .int vq16), (0, .ref (adr Y t))]) d_T_giveBackSplit_22 1 rfl rfl (by decide) (fun _ => rfl) h15 (fun vq16 h17 => ?_)
    refine g_goto hX 2 d_T_giveBackSplit_25 (by decide) ?_
    refine g_sub (lv2 := [(0, .ref (adr Y t)), (1, .int vq16)]) [1, 0] rfl ?_
    cases h17
    exact h4 (vq16, σ14) rfl
