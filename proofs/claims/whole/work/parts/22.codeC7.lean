noncomputable def O_put (x1 : Int32) (x2 : Int32) (x3 : Int32) (x4 : Int32) (σ : Mem) : Option (Int32 × Mem) := lt (if (O_isSheet x1) = 0 then true else if (O_isForm x2) = 0 then true else false : Bool) (fun bq2 => if bq2 = true then some ((-2), σ) else (O_findingOf x1 x2 x3 σ).bind (fun vq12 => if vq12 = 0 then (S_setItem x1 x3 x4 σ).bind (fun σ18 => some (1, σ18)) else lt (O_found vq12 σ) (fun q => lt q.1 (fun vq22 => lt q.2 (fun σ23 => some (vq22, σ23))))))
set_option maxHeartbeats 4000000 in
set_option maxRecDepth 100000 in
theorem c_O_put (l : Launch) (Y : Wx) (x1 : Int32) (x2 : Int32) (x3 : Int32) (x4 : Int32)  (σ : Mem) (o : Int32 × Mem) (hf : O_put x1 x2 x3 x4 σ = some o) : Ct l Y 0 y_O_put b_O_put 6 (some .int) 2 [.ref (adr Y 0), .int x1, .int x2, .int x3, .int x4] σ (some (.int o.1)) o.2 := by
  unfold O_put at hf
  refine ct_of (by decide) (Nat.le_of_ble_eq_true rfl) rfl (fun X hXl hX hR => ?_)
  subst hXl
  have hX : Fx X Y 0 b_O_put 6 R_O 2 := hX
  refine g_iload_n hX d_O_put_0 1 rfl ?_
  refine g_callS hX [.int x1] [] mv_O_104 (c_O_isSheet X.2.1 Y x1 σ _ rfl) (by decide) rfl rfl (Nat.le_of_ble_eq_true rfl) d_O_put_1 (fun h1 => ?_)
  show Gd X Y 0 σ [(0, .ref (adr Y 0)), (1, .int x1), (2, .int x2), (3, .int x3), (4, .int x4)] 4 [.int (O_isSheet x1)]
  obtain ⟨bq2, h3, h4⟩ := ltex hf
  have Kbq2t : bq2 = true → Gd X Y 0 σ [(0, .ref (adr Y 0)), (1, .int x1), (2, .int x2), (3, .int x3), (4, .int x4)] 14 [] := by
    intro h27
    have h10 := (if_pos h27).symm.trans h4
    refine g_bipush hX (-2) d_O_put_14 (by decide) ?_
    cases h10
    exact g_ireturn hX hR d_O_put_16
  have Kbq2f : ¬ bq2 = true → Gd X Y 0 σ [(0, .ref (adr Y 0)), (1, .int x1), (2, .int x2), (3, .int x3), (4, .int x4)] 17 [] := by
    intro h27
    have h11 := (if_neg h27).symm.trans h4
    refine g_aload_n hX d_O_put_17 0 rfl ?_
    refine g_iload_n hX d_O_put_18 1 rfl ?_
    refine g_iload_n hX d_O_put_19 2 rfl ?_
    refine g_iload_n hX d_O_put_20 3 rfl ?_
    obtain ⟨vq12, h13, h14⟩ := obind h11
    refine g_callV hX [.int x1, .int x2, .int x3] [] mv_O_182 (c_O_findingOf X.2.1 Y x1 x2 x3 σ _ h13) (by decide) iw_0 sh_0 rfl rfl rfl (Nat.le_of_ble_eq_true rfl) d_O_put_21 (fun h15 => ?_)
    show Gd X Y 0 σ [(0, .ref (adr Y 0)), (1, .int x1), (2, .int x2), (3, .int x3), (4, .int x4)] 24 [.int vq12]
    refine g_istoreV hX [(5, .int vq12), (0, .ref (adr Y 0)), (1, .int x1), (2, .int x2), (3, .int x3), (4, .int x4)] d_O_put_24 (by decide) rfl ?_
    refine g_iload hX d_O_put_26 0 rfl ?_
    refine g_if_eq hX 38 d_O_put_28 (by decide) h14 (fun h16 => ?_) (fun h17 => ?_)
    · refine g_aload_n hX d_O_put_38 1 rfl ?_
      refine g_getR hX iw_0 sh_0 rfl fl_O_35 d_O_put_39 ?_
      refine g_iload_n hX d_O_put_42 2 rfl ?_
      refine g_iload_n hX d_O_put_43 4 rfl ?_
      refine g_iload hX d_O_put_44 5 rfl ?_
      obtain ⟨σ18, h19, h20⟩ := obind h16
      refine g_callV hX [.int x1, .int x3, .int x4] [] mv_O_186 (c_S_setItem X.2.1 Y x1 x3 x4 σ _ h19) (by decide) iw_6 sh_6 rfl rfl rfl (Nat.le_of_ble_eq_true rfl) d_O_put_46 (fun h21 => ?_)
      show Gd X Y 0 σ18 [(5, .int vq12), (0, .ref (adr Y 0)), (1, .int x1), (2, .int x2), (3, .int x3), (4, .int x4)] 49 []
      refine g_iconst hX 1 d_O_put_49 (by decide) ?_
      cases h20
      exact g_ireturn hX hR d_O_put_50
    · refine g_aload_n hX d_O_put_31 1 rfl ?_
      refine g_iload hX d_O_put_32 0 rfl ?_
      obtain ⟨⟨vq22, σ23⟩, h24, h25⟩ := ltex h17
      have h25 := lt2 h25
      refine g_callV hX [.int vq12] [] mv_O_110 (c_O_found X.2.1 Y vq12 σ _ h24) (by decide) iw_0 sh_0 rfl rfl rfl (Nat.le_of_ble_eq_true rfl) d_O_put_34 (fun h26 => ?_)
      show Gd X Y 0 σ23 [(5, .int vq12), (0, .ref (adr Y 0)), (1, .int x1), (2, .int x2), (3, .int x3), (4, .int x4)] 37 [.int vq22]
      cases h25
      exact g_ireturn hX hR d_O_put_37
  refine g_if_eq hX 14 d_O_put_4 (by decide) h3 (fun h5 => ?_) (fun h6 => ?_)
  · cases h5
    exact Kbq2t rfl
  · refine g_iload_n hX d_O_put_7 2 rfl ?_
    refine g_callS hX [.int x2] [] mv_O_172 (c_O_isForm X.2.1 Y x2 σ _ rfl) (by decide) rfl rfl (Nat.le_of_ble_eq_true rfl) d_O_put_8 (fun h7 => ?_)
    show Gd X Y 0 σ [(0, .ref (adr Y 0)), (1, .int x1), (2, .int x2), (3, .int x3), (4, .int x4)] 11 [.int (O_isForm x2)]
    refine g_if_ne hX 17 d_O_put_11 (by decide) h6 (fun h8 => ?_) (fun h9 => ?_)
    · cases h8
      exact Kbq2f (by decide)
    · cases h9
      exact Kbq2t rfl
noncomputable def O_get (x1 : Int32) (x2 : Int32) (x3 : Int32) (σ : Mem) : Option (Int32 × Mem) := lt (if (O_isSheet x1) = 0 then true else if (O_isForm x2) = 0 then true else false : Bool) (fun bq2 => if bq2 = true then some ((-2147483648), σ) else (O_findingOf x1 x2 x3 σ).bind (fun vq12 => if vq12 = 0 then (S_item x1 x3 σ).bind (fun vq18 => some (vq18, σ)) else lt (O_found vq12 σ) (fun q => lt q.1 (fun vq22 => lt q.2 (fun σ23 => some ((-2147483648), σ23))))))
set_option maxHeartbeats 4000000 in
set_option maxRecDepth 100000 in
theorem c_O_get (l : Launch) (Y : Wx) (x1 : Int32) (x2 : Int32) (x3 : Int32)  (σ : Mem) (o : Int32 × Mem) (hf : O_get x1 x2 x3 σ = some o) : Ct l Y 0 y_O_get b_O_get 5 (some .int) 2 [.ref (adr Y 0), .int x1, .int x2, .int x3] σ (some (.int o.1)) o.2 := by
  unfold O_get at hf
  refine ct_of (by decide) (Nat.le_of_ble_eq_true rfl) rfl (fun X hXl hX hR => ?_)
  subst hXl
  have hX : Fx X Y 0 b_O_get 5 R_O 2 := hX
  refine g_iload_n hX d_O_get_0 1 rfl ?_
  refine g_callS hX [.int x1] [] mv_O_104 (c_O_isSheet X.2.1 Y x1 σ _ rfl) (by decide) rfl rfl (Nat.le_of_ble_eq_true rfl) d_O_get_1 (fun h1 => ?_)
  show Gd X Y 0 σ [(0, .ref (adr Y 0)), (1, .int x1), (2, .int x2), (3, .int x3)] 4 [.int (O_isSheet x1)]
  obtain ⟨bq2, h3, h4⟩ := ltex hf
  have Kbq2t : bq2 = true → Gd X Y 0 σ [(0, .ref (adr Y 0)), (1, .int x1), (2, .int x2), (3, .int x3)] 14 [] := by
    intro h27
    have h10 := (if_pos h27).symm.trans h4
    refine g_ldc hX d_O_get_14 q_390 ?_
    cases h10
    exact g_ireturn hX hR d_O_get_16
  have Kbq2f : ¬ bq2 = true → Gd X Y 0 σ [(0, .ref (adr Y 0)), (1, .int x1), (2, .int x2), (3, .int x3)] 17 [] := by
    intro h27
    have h11 := (if_neg h27).symm.trans h4
    refine g_aload_n hX d_O_get_17 0 rfl ?_
    refine g_iload_n hX d_O_get_18 1 rfl ?_
    refine g_iload_n hX d_O_get_19 2 rfl ?_
    refine g_iload_n hX d_O_get_20 3 rfl ?_
    obtain ⟨vq12, h13, h14⟩ := obind h11
    refine g_callV hX [.int x1, .int x2, .int x3] [] mv_O_182 (c_O_findingOf X.2.1 Y x1 x2 x3 σ _ h13) (by decide) iw_0 sh_0 rfl rfl rfl (Nat.le_of_ble_eq_true rfl) d_O_get_21 (fun h15 => ?_)
    show Gd X Y 0 σ [(0, .ref (adr Y 0)), (1, .int x1), (2, .int x2), (3, .int x3)] 24 [.int vq12]
    refine g_istoreV hX [(4, .int vq12), (0, .ref (adr Y 0)), (1, .int x1), (2, .int x2), (3, .int x3)] d_O_get_24 (by decide) rfl ?_
    refine g_iload hX d_O_get_26 0 rfl ?_
    refine g_if_eq hX 41 d_O_get_28 (by decide) h14 (fun h16 => ?_) (fun h17 => ?_)
    · refine g_aload_n hX d_O_get_41 1 rfl ?_
      refine g_getR hX iw_0 sh_0 rfl fl_O_35 d_O_get_42 ?_
      refine g_iload_n hX d_O_get_45 2 rfl ?_
      refine g_iload_n hX d_O_get_46 4 rfl ?_
      obtain ⟨vq18, h19, h20⟩ := obind h16
      refine g_callV hX [.int x1, .int x3] [] mv_O_116 (c_S_item X.2.1 Y x1 x3 σ _ h19) (by decide) iw_6 sh_6 rfl rfl rfl (Nat.le_of_ble_eq_true rfl) d_O_get_47 (fun h21 => ?_)
      show Gd X Y 0 σ [(4, .int vq12), (0, .ref (adr Y 0)), (1, .int x1), (2, .int x2), (3, .int x3)] 50 [.int vq18]
      cases h20
      exact g_ireturn hX hR d_O_get_50
    · refine g_aload_n hX d_O_get_31 1 rfl ?_
      refine g_iload hX d_O_get_32 0 rfl ?_
      obtain ⟨⟨vq22, σ23⟩, h24, h25⟩ := ltex h17
      have h25 := lt2 h25
      refine g_callV hX [.int vq12] [] mv_O_110 (c_O_found X.2.1 Y vq12 σ _ h24) (by decide) iw_0 sh_0 rfl rfl rfl (Nat.le_of_ble_eq_true rfl) d_O_get_34 (fun h26 => ?_)
      show Gd X Y 0 σ23 [(4, .int vq12), (0, .ref (adr Y 0)), (1, .int x1), (2, .int x2), (3, .int x3)] 37 [.int vq22]
      refine g_pop hX d_O_get_37 rfl ?_
      refine g_ldc hX d_O_get_38 q_390 ?_
      cases h25
      exact g_ireturn hX hR d_O_get_40
  refine g_if_eq hX 14 d_O_get_4 (by decide) h3 (fun h5 => ?_) (fun h6 => ?_)
  · cases h5
    exact Kbq2t rfl
  · refine g_iload_n hX d_O_get_7 2 rfl ?_
    refine g_callS hX [.int x2] [] mv_O_172 (c_O_isForm X.2.1 Y x2 σ _ rfl) (by decide) rfl rfl (Nat.le_of_ble_eq_true rfl) d_O_get_8 (fun h7 => ?_)
    show Gd X Y 0 σ [(0, .ref (adr Y 0)), (1, .int x1), (2, .int x2), (3, .int x3)] 11 [.int (O_isForm x2)]
    refine g_if_ne hX 17 d_O_get_11 (by decide) h6 (fun h8 => ?_) (fun h9 => ?_)
    · cases h8
      exact Kbq2f (by decide)
    · cases h9
      exact Kbq2t rfl
noncomputable def O_copy (x1 : Int32) (x2 : Int32) (x3 : Int32) (x4 : Int32) (x5 : Int32) (σ : Mem) : Option (Int32 × Mem) := lt (if (O_isSheet x1) = 0 then true else if (O_isSheet x3) = 0 then true else false : Bool) (fun bq2 => if bq2 = true then some ((-2), σ) else (S_isLost x1 σ).bind (fun vq12 => ((if vq12 = 0 then (S_isLost x3 σ).bind (fun vq21 => if vq21 = 0 then some false else some true) else some true : Option (Bool))).bind (fun bq16 => if bq16 = true then lt (O_found 1 σ) (fun q => lt q.1 (fun vq29 => lt q.2 (fun σ30 => some (vq29, σ30)))) else (S_formOf x1 σ).bind (fun vq34 => (S_formOf x3 σ).bind (fun vq38 => if vq34 = vq38 then (S_hasItems x1 x2 x5 σ).bind (fun vq44 => ((if vq44 = 0 then some true else (S_hasItems x3 x4 x5 σ).bind (fun vq53 => if vq53 = 0 then some true else some false) : Option (Bool))).bind (fun bq48 => if bq48 = true then lt (O_found 2 σ) (fun q => lt q.1 (fun vq61 => lt q.2 (fun σ62 => some (vq61, σ62)))) else (S_move x1 x2 x3 x4 x5 σ).bind (fun σ66 => some (1, σ66)))) else lt (O_found 4 σ) (fun q => lt q.1 (fun vq71 => lt q.2 (fun σ72 => some (vq71, σ72)))))))))
set_option maxHeartbeats 4000000 in
set_option maxRecDepth 100000 in
theorem c_O_copy (l : Launch) (Y : Wx) (x1 : Int32) (x2 : Int32) (x3 : Int32) (x4 : Int32) (x5 : Int32)  (σ : Mem) (o : Int32 × Mem) (hf : O_copy x1 x2 x3 x4 x5 σ = some o) : Ct l Y 0 y_O_copy b_O_copy 6 (some .int) 2 [.ref (adr Y 0), .int x1, .int x2, .int x3, .int x4, .int x5] σ (some (.int o.1)) o.2 := by
  unfold O_copy at hf
  refine ct_of (by decide) (Nat.le_of_ble_eq_true rfl) rfl (fun X hXl hX hR => ?_)
  subst hXl
  have hX : Fx X Y 0 b_O_copy 6 R_O 2 := hX
  refine g_iload_n hX d_O_copy_0 1 rfl ?_
  refine g_callS hX [.int x1] [] mv_O_104 (c_O_isSheet X.2.1 Y x1 σ _ rfl) (by decide) rfl rfl (Nat.le_of_ble_eq_true rfl) d_O_copy_1 (fun h1 => ?_)
  show Gd X Y 0 σ [(0, .ref (adr Y 0)), (1, .int x1), (2, .int x2), (3, .int x3), (4, .int x4), (5, .int x5)] 4 [.int (O_isSheet x1)]
  obtain ⟨bq2, h3, h4⟩ := ltex hf
  have Kbq2t : bq2 = true → Gd X Y 0 σ [(0, .ref (adr Y 0)), (1, .int x1), (2, .int x2), (3, .int x3), (4, .int x4), (5, .int x5)] 14 [] := by
    intro h77
    have h10 := (if_pos h77).symm.trans h4
    refine g_bipush hX (-2) d_O_copy_14 (by decide) ?_
    cases h10
    exact g_ireturn hX hR d_O_copy_16
  have Kbq2f : ¬ bq2 = true → Gd X Y 0 σ [(0, .ref (adr Y 0)), (1, .int x1), (2, .int x2), (3, .int x3), (4, .int x4), (5, .int x5)] 17 [] := by
    intro h77
    have h11 := (if_neg h77).symm.trans h4
    refine g_aload_n hX d_O_copy_17 0 rfl ?_
    refine g_getR hX iw_0 sh_0 rfl fl_O_35 d_O_copy_18 ?_
    refine g_iload_n hX d_O_copy_21 1 rfl ?_
    obtain ⟨vq12, h13, h14⟩ := obind h11
    refine g_callV hX [.int x1] [] mv_O_107 (c_S_isLost X.2.1 Y x1 σ _ h13) (by decide) iw_6 sh_6 rfl rfl rfl (Nat.le_of_ble_eq_true rfl) d_O_copy_22 (fun h15 => ?_)
    show Gd X Y 0 σ [(0, .ref (adr Y 0)), (1, .int x1), (2, .int x2), (3, .int x3), (4, .int x4), (5, .int x5)] 25 [.int vq12]
    obtain ⟨bq16, h17, h18⟩ := obind h14
    have Kbq16t : bq16 = true → Gd X Y 0 σ [(0, .ref (adr Y 0)), (1, .int x1), (2, .int x2), (3, .int x3), (4, .int x4), (5, .int x5)] 39 [] := by
      intro h76
      have h27 := (if_pos h76).symm.trans h18
      refine g_aload_n hX d_O_copy_39 0 rfl ?_
      refine g_iconst hX 1 d_O_copy_40 (by decide) ?_
      obtain ⟨⟨vq29, σ30⟩, h31, h32⟩ := ltex h27
      have h32 := lt2 h32
      refine g_callV hX [.int 1] [] mv_O_110 (c_O_found X.2.1 Y 1 σ _ h31) (by decide) iw_0 sh_0 rfl rfl rfl (Nat.le_of_ble_eq_true rfl) d_O_copy_41 (fun h33 => ?_)
      show Gd X Y 0 σ30 [(0, .ref (adr Y 0)), (1, .int x1), (2, .int x2), (3, .int x3), (4, .int x4), (5, .int x5)] 44 [.int vq29]
      cases h32
      exact g_ireturn hX hR d_O_copy_44
    have Kbq16f : ¬ bq16 = true → Gd X Y 0 σ [(0, .ref (adr Y 0)), (1, .int x1), (2, .int x2), (3, .int x3), (4, .int x4), (5, .int x5)] 45 [] := by
      intro h76
      have h28 := (if_neg h76).symm.trans h18
      refine g_aload_n hX d_O_copy_45 0 rfl ?_
      refine g_getR hX iw_0 sh_0 rfl fl_O_35 d_O_copy_46 ?_
      refine g_iload_n hX d_O_copy_49 1 rfl ?_
      obtain ⟨vq34, h35, h36⟩ := obind h28
      refine g_callV hX [.int x1] [] mv_O_190 (c_S_formOf X.2.1 Y x1 σ _ h35) (by decide) iw_6 sh_6 rfl rfl rfl (Nat.le_of_ble_eq_true rfl) d_O_copy_50 (fun h37 => ?_)
      show Gd X Y 0 σ [(0, .ref (adr Y 0)), (1, .int x1), (2, .int x2), (3, .int x3), (4, .int x4), (5, .int x5)] 53 [.int vq34]
      refine g_aload_n hX d_O_copy_53 0 rfl ?_
      refine g_getR hX iw_0 sh_0 rfl fl_O_35 d_O_copy_54 ?_
      refine g_iload_n hX d_O_copy_57 3 rfl ?_
      obtain ⟨vq38, h39, h40⟩ := obind h36
      refine g_callV hX [.int x3] [.int vq34] mv_O_190 (c_S_formOf X.2.1 Y x3 σ _ h39) (by decide) iw_6 sh_6 rfl rfl rfl (Nat.le_of_ble_eq_true rfl) d_O_copy_58 (fun h41 => ?_)
      show Gd X Y 0 σ [(0, .ref (adr Y 0)), (1, .int x1), (2, .int x2), (3, .int x3), (4, .int x4), (5, .int x5)] 61 [.int vq38, .int vq34]
      refine g_icmp_eq hX 70 d_O_copy_61 (by decide) h40 (fun h42 => ?_) (fun h43 => ?_)
      · refine g_aload_n hX d_O_copy_70 0 rfl ?_
        refine g_getR hX iw_0 sh_0 rfl fl_O_35 d_O_copy_71 ?_
        refine g_iload_n hX d_O_copy_74 1 rfl ?_
        refine g_iload_n hX d_O_copy_75 2 rfl ?_
        refine g_iload hX d_O_copy_76 5 rfl ?_
        obtain ⟨vq44, h45, h46⟩ := obind h42
        refine g_callV hX [.int x1, .int x2, .int x5] [] mv_O_193 (c_S_hasItems X.2.1 Y x1 x2 x5 σ _ h45) (by decide) iw_6 sh_6 rfl rfl rfl (Nat.le_of_ble_eq_true rfl) d_O_copy_78 (fun h47 => ?_)
        show Gd X Y 0 σ [(0, .ref (adr Y 0)), (1, .int x1), (2, .int x2), (3, .int x3), (4, .int x4), (5, .int x5)] 81 [.int vq44]
        obtain ⟨bq48, h49, h50⟩ := obind h46
        have Kbq48t : bq48 = true → Gd X Y 0 σ [(0, .ref (adr Y 0)), (1, .int x1), (2, .int x2), (3, .int x3), (4, .int x4), (5, .int x5)] 99 [] := by
          intro h70
          have h59 := (if_pos h70).symm.trans h50
          refine g_aload_n hX d_O_copy_99 0 rfl ?_
          refine g_iconst hX 2 d_O_copy_100 (by decide) ?_
          obtain ⟨⟨vq61, σ62⟩, h63, h64⟩ := ltex h59
          have h64 := lt2 h64
          refine g_callV hX [.int 2] [] mv_O_110 (c_O_found X.2.1 Y 2 σ _ h63) (by decide) iw_0 sh_0 rfl rfl rfl (Nat.le_of_ble_eq_true rfl) d_O_copy_101 (fun h65 => ?_)
          show Gd X Y 0 σ62 [(0, .ref (adr Y 0)), (1, .int x1), (2, .int x2), (3, .int x3), (4, .int x4), (5, .int x5)] 104 [.int vq61]
          cases h64
          exact g_ireturn hX hR d_O_copy_104
        have Kbq48f : ¬ bq48 = true → Gd X Y 0 σ [(0, .ref (adr Y 0)), (1, .int x1), (2, .int x2), (3, .int x3), (4, .int x4), (5, .int x5)] 105 [] := by
          intro h70
          have h60 := (if_neg h70).symm.trans h50
          refine g_aload_n hX d_O_copy_105 0 rfl ?_
          refine g_getR hX iw_0 sh_0 rfl fl_O_35 d_O_copy_106 ?_
          refine g_iload_n hX d_O_copy_109 1 rfl ?_
          refine g_iload_n hX d_O_copy_110 2 rfl ?_
          refine g_iload_n hX d_O_copy_111 3 rfl ?_
          refine g_iload hX d_O_copy_112 4 rfl ?_
          refine g_iload hX d_O_copy_114 5 rfl ?_
          obtain ⟨σ66, h67, h68⟩ := obind h60
          refine g_callV hX [.int x1, .int x2, .int x3, .int x4, .int x5] [] mv_O_197 (c_S_move X.2.1 Y x1 x2 x3 x4 x5 σ _ h67) (by decide) iw_6 sh_6 rfl rfl rfl (Nat.le_of_ble_eq_true rfl) d_O_copy_116 (fun h69 => ?_)
          show Gd X Y 0 σ66 [(0, .ref (adr Y 0)), (1, .int x1), (2, .int x2), (3, .int x3), (4, .int x4), (5, .int x5)] 119 []
          refine g_iconst hX 1 d_O_copy_119 (by decide) ?_
          cases h68
          exact g_ireturn hX hR d_O_copy_120
        refine g_if_eq hX 99 d_O_copy_81 (by decide) h49 (fun h51 => ?_) (fun h52 => ?_)
        · cases h51
          exact Kbq48t rfl
        · refine g_aload_n hX d_O_copy_84 0 rfl ?_
          refine g_getR hX iw_0 sh_0 rfl fl_O_35 d_O_copy_85 ?_
          refine g_iload_n hX d_O_copy_88 3 rfl ?_
          refine g_iload hX d_O_copy_89 4 rfl ?_
          refine g_iload hX d_O_copy_91 5 rfl ?_
          obtain ⟨vq53, h54, h55⟩ := obind h52
          refine g_callV hX [.int x3, .int x4, .int x5] [] mv_O_193 (c_S_hasItems X.2.1 Y x3 x4 x5 σ _ h54) (by decide) iw_6 sh_6 rfl rfl rfl (Nat.le_of_ble_eq_true rfl) d_O_copy_93 (fun h56 => ?_)
          show Gd X Y 0 σ [(0, .ref (adr Y 0)), (1, .int x1), (2, .int x2), (3, .int x3), (4, .int x4), (5, .int x5)] 96 [.int vq53]
          refine g_if_ne hX 105 d_O_copy_96 (by decide) h55 (fun h57 => ?_) (fun h58 => ?_)
          · cases h57
            exact Kbq48f (by decide)
          · cases h58
            exact Kbq48t rfl
      · refine g_aload_n hX d_O_copy_64 0 rfl ?_
        refine g_iconst hX 4 d_O_copy_65 (by decide) ?_
        obtain ⟨⟨vq71, σ72⟩, h73, h74⟩ := ltex h43
        have h74 := lt2 h74
        refine g_callV hX [.int 4] [] mv_O_110 (c_O_found X.2.1 Y 4 σ _ h73) (by decide) iw_0 sh_0 rfl rfl rfl (Nat.le_of_ble_eq_true rfl) d_O_copy_66 (fun h75 => ?_)
        show Gd X Y 0 σ72 [(0, .ref (adr Y 0)), (1, .int x1), (2, .int x2), (3, .int x3), (4, .int x4), (5, .int x5)] 69 [.int vq71]
        cases h74
        exact g_ireturn hX hR d_O_copy_69
    refine g_if_ne hX 39 d_O_copy_25 (by decide) h17 (fun h19 => ?_) (fun h20 => ?_)
    · cases h19
      exact Kbq16t rfl
    · refine g_aload_n hX d_O_copy_28 0 rfl ?_
      refine g_getR hX iw_0 sh_0 rfl fl_O_35 d_O_copy_29 ?_
      refine g_iload_n hX d_O_copy_32 3 rfl ?_
      obtain ⟨vq21, h22, h23⟩ := obind h20
      refine g_callV hX [.int x3] [] mv_O_107 (c_S_isLost X.2.1 Y x3 σ _ h22) (by decide) iw_6 sh_6 rfl rfl rfl (Nat.le_of_ble_eq_true rfl) d_O_copy_33 (fun h24 => ?_)
      show Gd X Y 0 σ [(0, .ref (adr Y 0)), (1, .int x1), (2, .int x2), (3, .int x3), (4, .int x4), (5, .int x5)] 36 [.int vq21]
      refine g_if_eq hX 45 d_O_copy_36 (by decide) h23 (fun h25 => ?_) (fun h26 => ?_)
      · cases h25
        exact Kbq16f (by decide)
      · cases h26
        exact Kbq16t rfl
  refine g_if_eq hX 14 d_O_copy_4 (by decide) h3 (fun h5 => ?_) (fun h6 => ?_)
  · cases h5
    exact Kbq2t rfl
  · refine g_iload_n hX d_O_copy_7 3 rfl ?_
    refine g_callS hX [.int x3] [] mv_O_104 (c_O_isSheet X.2.1 Y x3 σ _ rfl) (by decide) rfl rfl (Nat.le_of_ble_eq_true rfl) d_O_copy_8 (fun h7 => ?_)
    show Gd X Y 0 σ [(0, .ref (adr Y 0)), (1, .int x1), (2, .int x2), (3, .int x3), (4, .int x4), (5, .int x5)] 11 [.int (O_isSheet x3)]
    refine g_if_ne hX 17 d_O_copy_11 (by decide) h6 (fun h8 => ?_) (fun h9 => ?_)
    · cases h8
      exact Kbq2f (by decide)
    · cases h9
      exact Kbq2t rfl
noncomputable def O_write_b1 (x2 : Int32) (vq32 : Int32) (vq34 : Int32) (σ35 : Mem) : Option ((Int32 × Mem) ⊕ (Mem)) := if vq32 ≤ vq34 then some (.inr σ35) else (rd σ35 4 vq34).bind (fun vq45 => (S_setItem x2 vq34 vq45 σ35).bind (fun σ47 => lt (vq34 + 1) (fun vq51 => some (.inl (vq51, σ47)))))
noncomputable def O_write (x1 : Int32) (x2 : Int32) (σ : Mem) : Option (Int32 × Mem) := lt (if (O_isRowNumber x1) = 0 then true else if (O_isSheet x2) = 0 then true else false : Bool) (fun bq2 => if bq2 = true then some ((-2), σ) else (S_isLost x2 σ).bind (fun vq12 => if vq12 = 0 then (T_rowCount 10 σ).bind (fun vq18 => if (lg_cmp (x1.toInt64) vq18) < 0 then (T_layRow 10 x1 4 σ).bind (fun σ24 => (S_sizeOf x2 σ24).bind (fun vq28 => lt (if (σ24 0 0) < vq28 then (σ24 0 0) else vq28) (fun vq32 => (lp (fun s => O_write_b1 x2 vq32 s.1 s.2) fuel (0, σ24)).bind (fun σ36 => some (vq32, σ36))))) else some (0, σ)) else lt (O_found 1 σ) (fun q => lt q.1 (fun vq53 => lt q.2 (fun σ54 => some (vq53, σ54))))))
set_option maxHeartbeats 4000000 in
set_option maxRecDepth 100000 in
theorem c_O_write (l : Launch) (Y : Wx) (x1 : Int32) (x2 : Int32)  (σ : Mem) (o : Int32 × Mem) (hf : O_write x1 x2 σ = some o) : Ct l Y 0 y_O_write b_O_write 5 (some .int) 3 [.ref (adr Y 0), .int x1, .int x2] σ (some (.int o.1)) o.2 := by
  unfold O_write at hf
  refine ct_of (by decide) (Nat.le_of_ble_eq_true rfl) rfl (fun X hXl hX hR => ?_)
  subst hXl
  have hX : Fx X Y 0 b_O_write 5 R_O 3 := hX
  refine g_iload_n hX d_O_write_0 1 rfl ?_
  refine g_callS hX [.int x1] [] mv_O_140 (c_O_isRowNumber X.2.1 Y x1 σ _ rfl) (by decide) rfl rfl (Nat.le_of_ble_eq_true rfl) d_O_write_1 (fun h1 => ?_)
  show Gd X Y 0 σ [(0, .ref (adr Y 0)), (1, .int x1), (2, .int x2)] 4 [.int (O_isRowNumber x1)]
  obtain ⟨bq2, h3, h4⟩ := ltex hf
  have Kbq2t : bq2 = true → Gd X Y 0 σ [(0, .ref (adr Y 0)), (1, .int x1), (2, .int x2)] 14 [] := by
    intro h58
    have h10 := (if_pos h58).symm.trans h4
    refine g_bipush hX (-2) d_O_write_14 (by decide) ?_
    cases h10
    exact g_ireturn hX hR d_O_write_16
  have Kbq2f : ¬ bq2 = true → Gd X Y 0 σ [(0, .ref (adr Y 0)), (1, .int x1), (2, .int x2)] 17 [] := by
    intro h58
    have h11 := (if_neg h58).symm.trans h4
    refine g_aload_n hX d_O_write_17 0 rfl ?_
    refine g_getR hX iw_0 sh_0 rfl fl_O_35 d_O_write_18 ?_
    refine g_iload_n hX d_O_write_21 2 rfl ?_
    obtain ⟨vq12, h13, h14⟩ := obind h11
    refine g_callV hX [.int x2] [] mv_O_107 (c_S_isLost X.2.1 Y x2 σ _ h13) (by decide) iw_6 sh_6 rfl rfl rfl (Nat.le_of_ble_eq_true rfl) d_O_write_22 (fun h15 => ?_)
    show Gd X Y 0 σ [(0, .ref (adr Y 0)), (1, .int x1), (2, .int x2)] 25 [.int vq12]
    refine g_if_eq hX 34 d_O_write_25 (by decide) h14 (fun h16 => ?_) (fun h17 => ?_)
    · refine g_iload_n hX d_O_write_34 1 rfl ?_
      refine g_i2l hX d_O_write_35 ?_
      refine g_aload_n hX d_O_write_36 0 rfl ?_
      refine g_getR hX iw_0 sh_0 rfl fl_O_42 d_O_write_37 ?_
      obtain ⟨vq18, h19, h20⟩ := obind h16
      refine g_callV hX [] [.long (x1.toInt64)] mv_O_123 (c_T_rowCount X.2.1 Y 10 isT_10 σ _ h19) (by decide) iw_10 sh_10 rfl rfl rfl (Nat.le_of_ble_eq_true rfl) d_O_write_40 (fun h21 => ?_)
      show Gd X Y 0 σ [(0, .ref (adr Y 0)), (1, .int x1), (2, .int x2)] 43 [.long vq18, .long (x1.toInt64)]
      refine g_lcmp hX d_O_write_43 ?_
      refine g_if_lt hX 49 d_O_write_44 (by decide) h20 (fun h22 => ?_) (fun h23 => ?_)
      · refine g_aload_n hX d_O_write_49 0 rfl ?_
        refine g_getR hX iw_0 sh_0 rfl fl_O_42 d_O_write_50 ?_
        refine g_iload_n hX d_O_write_53 1 rfl ?_
        refine g_aload_n hX d_O_write_54 0 rfl ?_
        refine g_getR hX iw_0 sh_0 rfl fl_O_58 d_O_write_55 ?_
        obtain ⟨σ24, h25, h26⟩ := obind h22
        refine g_callV hX [.int x1, .ref (adr Y 4)] [] mv_O_143 (c_T_layRow X.2.1 Y 10 x1 4 isT_10 isA_4 σ _ h25) (by decide) iw_10 sh_10 rfl rfl rfl (Nat.le_of_ble_eq_true rfl) d_O_write_58 (fun h27 => ?_)
        show Gd X Y 0 σ24 [(0, .ref (adr Y 0)), (1, .int x1), (2, .int x2)] 61 []
        refine g_aload_n hX d_O_write_61 0 rfl ?_
        refine g_getR hX iw_0 sh_0 rfl fl_O_35 d_O_write_62 ?_
        refine g_iload_n hX d_O_write_65 2 rfl ?_
        obtain ⟨vq28, h29, h30⟩ := obind h26
        refine g_callV hX [.int x2] [] mv_O_113 (c_S_sizeOf X.2.1 Y x2 σ24 _ h29) (by decide) iw_6 sh_6 rfl rfl rfl (Nat.le_of_ble_eq_true rfl) d_O_write_66 (fun h31 => ?_)
        show Gd X Y 0 σ24 [(0, .ref (adr Y 0)), (1, .int x1), (2, .int x2)] 69 [.int vq28]
        refine g_aload_n hX d_O_write_69 0 rfl ?_
        refine g_getI hX iw_0 sh_0 rfl fl_O_9.f d_O_write_70 ?_
        refine g_min hX (by decide) q_335 q_299 q_6 q_300 (Nat.le_of_ble_eq_true rfl) d_O_write_73 ?_
        refine g_istore_n hX (fun vq32 => [(3, .int vq32), (0, .ref (adr Y 0)), (1, .int x1), (2, .int x2)]) d_O_write_76 (by decide) (fun _ => rfl) h30 (fun vq32 h33 => ?_)
        refine g_iconst hX 0 d_O_write_77 (by decide) ?_
        refine g_istoreV hX [(4, .int 0), (3, .int vq32), (0, .ref (adr Y 0)), (1, .int x1), (2, .int x2)] d_O_write_78 (by decide) rfl ?_
        obtain ⟨σ36, h40, h41⟩ := obind h33
        have KX41 : Gd X Y 0 σ36 [(3, .int vq32)] 109 [] := by
          refine g_iload_n hX d_O_write_109 0 rfl ?_
          cases h41
          exact g_ireturn hX hR d_O_write_110
        refine g_sub (lv2 := [(0, .ref (adr Y 0)), (2, .int x2), (3, .int vq32), (4, .int 0)]) [2, 4, 1, 0] rfl ?_
        refine g_loop (fun s => O_write_b1 x2 vq32 s.1 s.2) (fun s => Gd X Y 0 s.2 [(0, .ref (adr Y 0)), (2, .int x2), (3, .int vq32), (4, .int s.1)] 80 []) σ36 ?_ fuel (0, σ24) h40
        intro s y39 h39 h37 h38
        obtain ⟨vq34, σ35⟩ := s
        have h39 : O_write_b1 x2 vq32 vq34 σ35 = some y39 := h39
        unfold O_write_b1 at h39
        show Gd X Y 0 σ35 [(0, .ref (adr Y 0)), (2, .int x2), (3, .int vq32), (4, .int vq34)] 80 []
        refine g_iload hX d_O_write_80 3 rfl ?_
        refine g_iload_n hX d_O_write_82 2 rfl ?_
        refine g_icmp_ge hX 109 d_O_write_83 (by decide) h39 (fun h43 => ?_) (fun h44 => ?_)
        · refine g_sub (lv2 := [(3, .int vq32)]) [2] rfl ?_
          cases h43
          have h42 := h38 σ35 rfl
          cases h42
          exact KX41
        · refine g_aload_n hX d_O_write_86 0 rfl ?_
          refine g_getR hX iw_0 sh_0 rfl fl_O_35 d_O_write_87 ?_
          refine g_iload_n hX d_O_write_90 1 rfl ?_
          refine g_iload hX d_O_write_91 3 rfl ?_
          refine g_aload_n hX d_O_write_93 0 rfl ?_
          refine g_getR hX iw_0 sh_0 rfl fl_O_58 d_O_write_94 ?_
          refine g_iload hX d_O_write_97 3 rfl ?_
          refine g_iaload hX iw_4 sh_4 d_O_write_99 h44 (fun vq45 h46 => ?_)
          obtain ⟨σ47, h48, h49⟩ := obind h46
          refine g_callV hX [.int x2, .int vq34, .int vq45] [] mv_O_186 (c_S_setItem X.2.1 Y x2 vq34 vq45 σ35 _ h48) (by decide) iw_6 sh_6 rfl rfl rfl (Nat.le_of_ble_eq_true rfl) d_O_write_100 (fun h50 => ?_)
          show Gd X Y 0 σ47 [(0, .ref (adr Y 0)), (2, .int x2), (3, .int vq32), (4, .int vq34)] 103 []
          refine g_iinc hX (fun vq51 => [(4, .int vq51), (0, .ref (adr Y 0)), (2, .int x2), (3, .int vq32)]) d_O_write_103 3 rfl rfl (by decide) (fun _ => rfl) h49 (fun vq51 h52 => ?_)
          refine g_goto hX 80 d_O_write_106 (by decide) ?_
          refine g_sub (lv2 := [(0, .ref (adr Y 0)), (2, .int x2), (3, .int vq32), (4, .int vq51)]) [1, 2, 3, 0] rfl ?_
          cases h52
          exact h37 (vq51, σ47) rfl
      · refine g_iconst hX 0 d_O_write_47 (by decide) ?_
        cases h23
        exact g_ireturn hX hR d_O_write_48
    · refine g_aload_n hX d_O_write_28 0 rfl ?_
      refine g_iconst hX 1 d_O_write_29 (by decide) ?_
      obtain ⟨⟨vq53, σ54⟩, h55, h56⟩ := ltex h17
      have h56 := lt2 h56
      refine g_callV hX [.int 1] [] mv_O_110 (c_O_found X.2.1 Y 1 σ _ h55) (by decide) iw_0 sh_0 rfl rfl rfl (Nat.le_of_ble_eq_true rfl) d_O_write_30 (fun h57 => ?_)
      show Gd X Y 0 σ54 [(0, .ref (adr Y 0)), (1, .int x1), (2, .int x2)] 33 [.int vq53]
      cases h56
      exact g_ireturn hX hR d_O_write_33
  refine g_if_eq hX 14 d_O_write_4 (by decide) h3 (fun h5 => ?_) (fun h6 => ?_)
  · cases h5
    exact Kbq2t rfl
  · refine g_iload_n hX d_O_write_7 2 rfl ?_
    refine g_callS hX [.int x2] [] mv_O_104 (c_O_isSheet X.2.1 Y x2 σ _ rfl) (by decide) rfl rfl (Nat.le_of_ble_eq_true rfl) d_O_write_8 (fun h7 => ?_)
    show Gd X Y 0 σ [(0, .ref (adr Y 0)), (1, .int x1), (2, .int x2)] 11 [.int (O_isSheet x2)]
    refine g_if_ne hX 17 d_O_write_11 (by decide) h6 (fun h8 => ?_) (fun h9 => ?_)
    · cases h8
      exact Kbq2f (by decide)
    · cases h9
      exact Kbq2t rfl
noncomputable def O_count (x1 : Int32) (σ : Mem) : Option (Int32) := if x1 = 0 then some (σ 0 0) else if x1 = 1 then some (σ 0 2) else if x1 = 2 then some (J_bitCount (σ 0 3)) else if x1 = 3 then some (T_nodeCount 10 σ) else if x1 = 4 then (T_turningCount 10 σ).bind (fun vq23 => some vq23) else if x1 = 5 then (T_rowCount 10 σ).bind (fun vq29 => some (vq29.toInt32)) else if x1 = 6 then some (σ 0 10) else if x1 = 7 then some (σ 0 5) else if x1 = 8 then some (σ 0 6) else some (-2)
set_option maxHeartbeats 4000000 in
set_option maxRecDepth 100000 in
theorem c_O_count (l : Launch) (Y : Wx) (x1 : Int32)  (σ : Mem) (o : Int32) (hf : O_count x1 σ = some o) : Ct l Y 0 y_O_count b_O_count 2 (some .int) 3 [.ref (adr Y 0), .int x1] σ (some (.int o)) σ := by
  unfold O_count at hf
  refine ct_of (by decide) (Nat.le_of_ble_eq_true rfl) rfl (fun X hXl hX hR => ?_)
  subst hXl
  have hX : Fx X Y 0 b_O_count 2 R_O 3 := hX
  refine g_iload_n hX d_O_count_0 1 rfl ?_
  by_cases h39 : x1 = 0
  · have h11 := (if_pos h39).symm.trans hf
    refine g_tabIn hX 52 d_O_count_1 (by rw [h39]; decide) (by rw [h39]; decide) (by rw [h39]; rfl) (by decide) ?_
    refine g_aload_n hX d_O_count_52 0 rfl ?_
    refine g_getI hX iw_0 sh_0 rfl fl_O_9.f d_O_count_53 ?_
    cases h11
    exact g_ireturn hX hR d_O_count_56
  have h40 := (if_neg h39).symm.trans hf
  by_cases h41 : x1 = 1
  · have h13 := (if_pos h41).symm.trans h40
    refine g_tabIn hX 57 d_O_count_1 (by rw [h41]; decide) (by rw [h41]; decide) (by rw [h41]; rfl) (by decide) ?_
    refine g_aload_n hX d_O_count_57 0 rfl ?_
    refine g_getI hX iw_0 sh_0 rfl fl_O_17.f d_O_count_58 ?_
    cases h13
    exact g_ireturn hX hR d_O_count_61
  have h42 := (if_neg h41).symm.trans h40
  by_cases h43 : x1 = 2
  · have h15 := (if_pos h43).symm.trans h42
    refine g_tabIn hX 62 d_O_count_1 (by rw [h43]; decide) (by rw [h43]; decide) (by rw [h43]; rfl) (by decide) ?_
    refine g_aload_n hX d_O_count_62 0 rfl ?_
    refine g_getI hX iw_0 sh_0 rfl fl_O_20.f d_O_count_63 ?_
    refine g_callS hX [.int (σ 0 3)] [] mv_O_71 (c_J_bitCount X.2.1 Y (σ 0 3) σ _ rfl) (by decide) rfl rfl (Nat.le_of_ble_eq_true rfl) d_O_count_66 (fun h17 => ?_)
    show Gd X Y 0 σ [(0, .ref (adr Y 0)), (1, .int x1)] 69 [.int (J_bitCount (σ 0 3))]
    cases h15
    exact g_ireturn hX hR d_O_count_69
  have h44 := (if_neg h43).symm.trans h42
  by_cases h45 : x1 = 3
  · have h18 := (if_pos h45).symm.trans h44
    refine g_tabIn hX 70 d_O_count_1 (by rw [h45]; decide) (by rw [h45]; decide) (by rw [h45]; rfl) (by decide) ?_
    refine g_aload_n hX d_O_count_70 0 rfl ?_
    refine g_getR hX iw_0 sh_0 rfl fl_O_42 d_O_count_71 ?_
    refine g_callV hX [] [] mv_O_127 (c_T_nodeCount X.2.1 Y 10 isT_10 σ _ rfl) (by decide) iw_10 sh_10 rfl rfl rfl (Nat.le_of_ble_eq_true rfl) d_O_count_74 (fun h20 => ?_)
    show Gd X Y 0 σ [(0, .ref (adr Y 0)), (1, .int x1)] 77 [.int (T_nodeCount 10 σ)]
    cases h18
    exact g_ireturn hX hR d_O_count_77
  have h46 := (if_neg h45).symm.trans h44
  by_cases h47 : x1 = 4
  · have h21 := (if_pos h47).symm.trans h46
    refine g_tabIn hX 78 d_O_count_1 (by rw [h47]; decide) (by rw [h47]; decide) (by rw [h47]; rfl) (by decide) ?_
    refine g_aload_n hX d_O_count_78 0 rfl ?_
    refine g_getR hX iw_0 sh_0 rfl fl_O_42 d_O_count_79 ?_
    obtain ⟨vq23, h24, h25⟩ := obind h21
    refine g_callV hX [] [] mv_O_206 (c_T_turningCount X.2.1 Y 10 isT_10 σ _ h24) (by decide) iw_10 sh_10 rfl rfl rfl (Nat.le_of_ble_eq_true rfl) d_O_count_82 (fun h26 => ?_)
    show Gd X Y 0 σ [(0, .ref (adr Y 0)), (1, .int x1)] 85 [.int vq23]
    cases h25
    exact g_ireturn hX hR d_O_count_85
  have h48 := (if_neg h47).symm.trans h46
  by_cases h49 : x1 = 5
  · have h27 := (if_pos h49).symm.trans h48
    refine g_tabIn hX 86 d_O_count_1 (by rw [h49]; decide) (by rw [h49]; decide) (by rw [h49]; rfl) (by decide) ?_
    refine g_aload_n hX d_O_count_86 0 rfl ?_
    refine g_getR hX iw_0 sh_0 rfl fl_O_42 d_O_count_87 ?_
    obtain ⟨vq29, h30, h31⟩ := obind h27
    refine g_callV hX [] [] mv_O_123 (c_T_rowCount X.2.1 Y 10 isT_10 σ _ h30) (by decide) iw_10 sh_10 rfl rfl rfl (Nat.le_of_ble_eq_true rfl) d_O_count_90 (fun h32 => ?_)
    show Gd X Y 0 σ [(0, .ref (adr Y 0)), (1, .int x1)] 93 [.long vq29]
    refine g_l2i hX d_O_count_93 ?_
    cases h31
    exact g_ireturn hX hR d_O_count_94
  have h50 := (if_neg h49).symm.trans h48
  by_cases h51 : x1 = 6
  · have h33 := (if_pos h51).symm.trans h50
    refine g_tabIn hX 95 d_O_count_1 (by rw [h51]; decide) (by rw [h51]; decide) (by rw [h51]; rfl) (by decide) ?_
    refine g_aload_n hX d_O_count_95 0 rfl ?_
    refine g_getI hX iw_0 sh_0 rfl fl_O_49.f d_O_count_96 ?_
    cases h33
    exact g_ireturn hX hR d_O_count_99
  have h52 := (if_neg h51).symm.trans h50
  by_cases h53 : x1 = 7
  · have h35 := (if_pos h53).symm.trans h52
    refine g_tabIn hX 100 d_O_count_1 (by rw [h53]; decide) (by rw [h53]; decide) (by rw [h53]; rfl) (by decide) ?_
    refine g_aload_n hX d_O_count_100 0 rfl ?_
    refine g_getI hX iw_0 sh_0 rfl fl_O_26.f d_O_count_101 ?_
    cases h35
    exact g_ireturn hX hR d_O_count_104
  have h54 := (if_neg h53).symm.trans h52
  by_cases h55 : x1 = 8
  · have h37 := (if_pos h55).symm.trans h54
    refine g_tabIn hX 105 d_O_count_1 (by rw [h55]; decide) (by rw [h55]; decide) (by rw [h55]; rfl) (by decide) ?_
    refine g_aload_n hX d_O_count_105 0 rfl ?_
    refine g_getI hX iw_0 sh_0 rfl fl_O_29.f d_O_count_106 ?_
    cases h37
    exact g_ireturn hX hR d_O_count_109
  have h56 := (if_neg h55).symm.trans h54
  have h10 := h56
  refine g_tabOut hX 110 d_O_count_1 (sw_out9 h39 h41 h43 h45 h47 h49 h51 h53 h55) (by decide) ?_
  refine g_bipush hX (-2) d_O_count_110 (by decide) ?_
  cases h10
  exact g_ireturn hX hR d_O_count_112
noncomputable def O_digest_b1 (σ : Mem) (vq3 : Int64) (vq4 : Int32) : Option ((Int64 × Int32) ⊕ (Int64)) := if 7 < vq4 then some (.inr vq3) else (O_count vq4 σ).bind (fun vq14 => lt ((31 * vq3) + (vq14.toInt64)) (fun vq18 => lt (vq4 + 1) (fun vq20 => some (.inl (vq18, vq20)))))
noncomputable def O_digest_b2  (vq22 : Int64) (vq23 : Int32) (σ24 : Mem) : Option ((Int64 × Int32 × Mem) ⊕ (Int64 × Mem)) := if (σ24 0 2) ≤ vq23 then some (.inr (vq22, σ24)) else lt ((31 * vq22) + ((O_taken vq23 σ24).toInt64)) (fun vq36 => (O_reason vq23 σ24).bind (fun q => lt q.1 (fun vq38 => lt q.2 (fun σ39 => lt ((31 * vq36) + (vq38.toInt64)) (fun vq43 => lt (vq23 + 1) (fun vq45 => some (.inl (vq43, vq45, σ39))))))))
noncomputable def O_digest_b3 (σ26 : Mem) (vq53 : Int64) (vq54 : Int32) : Option ((Int64 × Int32) ⊕ (Int64)) := if 40 ≤ vq54 then some (.inr vq53) else (O_tree vq54 σ26).bind (fun vq64 => lt ((31 * vq53) + (vq64.toInt64)) (fun vq68 => lt (vq54 + 1) (fun vq70 => some (.inl (vq68, vq70)))))
noncomputable def O_digest_b4 (σ26 : Mem) (vq73 : Int32) (vq83 : Int64) (vq84 : Int32) : Option ((Int64 × Int32) ⊕ (Int64)) := if 2 < vq84 then some (.inr vq83) else (O_node vq73 vq84 σ26).bind (fun vq94 => lt ((31 * vq83) + (vq94.toInt64)) (fun vq98 => lt (vq84 + 1) (fun vq100 => some (.inl (vq98, vq100)))))
noncomputable def O_digest_b5 (σ26 : Mem) (vq72 : Int64) (vq73 : Int32) : Option ((Int64 × Int32) ⊕ (Int64)) := if 7 ≤ vq73 then some (.inr vq72) else (lp (fun s => O_digest_b4 σ26 vq73 s.1 s.2) fuel (vq72, 0)).bind (fun vq85 => lt (vq73 + 1) (fun vq102 => some (.inl (vq85, vq102))))
noncomputable def O_digest_b6 (vq117 : Int32) (vq119 : Int64) (vq120 : Int32) (σ121 : Mem) : Option ((Int64 × Int32 × Mem) ⊕ (Int64 × Mem)) := if 8 ≤ vq120 then some (.inr (vq119, σ121)) else (O_row vq117 vq120 σ121).bind (fun q => lt q.1 (fun vq132 => lt q.2 (fun σ133 => lt ((31 * vq119) + (vq132.toInt64)) (fun vq137 => lt (vq120 + 1) (fun vq139 => some (.inl (vq137, vq139, σ133)))))))
noncomputable def O_digest_b7  (vq104 : Int64) (vq105 : Int32) (σ106 : Mem) : Option ((Int64 × Int32 × Mem) ⊕ (Int64 × Mem)) := if 5 ≤ vq105 then some (.inr (vq104, σ106)) else (rds 1 vq105).bind (fun vq117 => (lp (fun s => O_digest_b6 vq117 s.1 s.2.1 s.2.2) fuel (vq104, 0, σ106)).bind (fun q => lt q.1 (fun vq122 => lt q.2 (fun σ123 => lt (vq105 + 1) (fun vq141 => some (.inl (vq122, vq141, σ123)))))))
noncomputable def O_digest_b8  (vq143 : Int64) (vq144 : Int32) (σ145 : Mem) : Option ((Int64 × Int32 × Mem) ⊕ (Int64 × Mem)) := if 6 ≤ vq144 then some (.inr (vq143, σ145)) else (rds 2 vq144).bind (fun vq156 => (O_may vq156 σ145).bind (fun q => lt q.1 (fun vq158 => lt q.2 (fun σ159 => lt ((31 * vq143) + (vq158.toInt64)) (fun vq163 => (O_must vq156 σ159).bind (fun q => lt q.1 (fun vq165 => lt q.2 (fun σ166 => lt ((31 * vq163) + (vq165.toInt64)) (fun vq170 => lt (vq144 + 1) (fun vq172 => some (.inl (vq170, vq172, σ166))))))))))))
noncomputable def O_digest_b9 (σ147 : Mem) (vq175 : Int32) (vq185 : Int64) (vq186 : Int32) : Option ((Int64 × Int32) ⊕ (Int64)) := if (σ147 0 0) ≤ vq186 then some (.inr vq185) else (O_apart vq175 vq186 0 σ147).bind (fun vq196 => lt ((31 * vq185) + (vq196.toInt64)) (fun vq200 => (O_apart vq175 vq186 1 σ147).bind (fun vq202 => lt ((31 * vq200) + (vq202.toInt64)) (fun vq206 => lt (vq186 + 1) (fun vq208 => some (.inl (vq206, vq208)))))))
noncomputable def O_digest_b10 (σ147 : Mem) (vq174 : Int64) (vq175 : Int32) : Option ((Int64 × Int32) ⊕ (Int64)) := if (σ147 0 0) ≤ vq175 then some (.inr vq174) else (lp (fun s => O_digest_b9 σ147 vq175 s.1 s.2) fuel (vq174, 0)).bind (fun vq187 => lt (vq175 + 1) (fun vq210 => some (.inl (vq187, vq210))))
noncomputable def O_digest  (σ : Mem) : Option (Int64 × Mem) := lt 17 (fun vq1 => (lp (fun s => O_digest_b1 σ s.1 s.2) fuel (vq1, 0)).bind (fun vq5 => (lp (fun s => O_digest_b2 s.1 s.2.1 s.2.2) fuel (vq5, 0, σ)).bind (fun q => lt q.1 (fun vq25 => lt q.2 (fun σ26 => (O_many σ26).bind (fun vq47 => lt ((31 * vq25) + vq47) (fun vq51 => (lp (fun s => O_digest_b3 σ26 s.1 s.2) fuel (vq51, (-1))).bind (fun vq55 => (lp (fun s => O_digest_b5 σ26 s.1 s.2) fuel (vq55, 0)).bind (fun vq74 => (lp (fun s => O_digest_b7 s.1 s.2.1 s.2.2) fuel (vq74, 0, σ26)).bind (fun q => lt q.1 (fun vq107 => lt q.2 (fun σ108 => (lp (fun s => O_digest_b8 s.1 s.2.1 s.2.2) fuel (vq107, 0, σ108)).bind (fun q => lt q.1 (fun vq146 => lt q.2 (fun σ147 => (lp (fun s => O_digest_b10 σ147 s.1 s.2) fuel (vq146, 0)).bind (fun vq176 => (O_spare σ147).bind (fun q => lt q.1 (fun vq212 => lt q.2 (fun σ213 => lt ((31 * vq176) + (vq212.toInt64)) (fun vq217 => (O_fault σ213).bind (fun vq219 => lt ((31 * vq217) + (vq219.toInt64)) (fun vq223 => (O_misses σ213).bind (fun q => lt q.1 (fun vq225 => lt q.2 (fun σ226 => lt ((31 * vq223) + (vq225.toInt64)) (fun vq230 => (O_number σ226).bind (fun q => lt q.1 (fun vq232 => lt q.2 (fun σ233 => some (((31 * vq230) + (vq232.toInt64)), σ233))))))))))))))))))))))))))))))
set_option maxHeartbeats 4000000 in
set_option maxRecDepth 100000 in
theorem c_O_digest (l : Launch) (Y : Wx)   (σ : Mem) (o : Int64 × Mem) (hf : O_digest σ = some o) : Ct l Y 0 y_O_digest b_O_digest 8 (some .long) 29 [.ref (adr Y 0)] σ (some (.long o.1)) o.2 := by
  unfold O_digest at hf
  refine ct_of (by decide) (Nat.le_of_ble_eq_true rfl) rfl (fun X hXl hX hR => ?_)
  subst hXl
  have hX : Fx X Y 0 b_O_digest 8 R_O 29 := hX
  refine g_ldc2 hX d_O_digest_0 q_422 ?_
  refine g_lstore_n hX (fun vq1 => [(1, .long vq1), (0, .ref (adr Y 0))]) d_O_digest_3 (by decide) (fun _ => rfl) hf (fun vq1 h2 => ?_)
  refine g_iconst hX 0 d_O_digest_4 (by decide) ?_
  refine g_istore_nV hX [(3, .int 0), (1, .long vq1), (0, .ref (adr Y 0))] d_O_digest_5 (by decide) rfl ?_
  obtain ⟨vq5, h9, h10⟩ := obind h2
  have KX10 : Gd X Y 0 σ [(0, .ref (adr Y 0)), (1, .long vq5)] 31 [] := by
    refine g_iconst hX 0 d_O_digest_31 (by decide) ?_
    refine g_istore_nV hX [(3, .int 0), (0, .ref (adr Y 0)), (1, .long vq5)] d_O_digest_32 (by decide) rfl ?_
    obtain ⟨⟨vq25, σ26⟩, h30, h31⟩ := obind h10
    have h31 := lt2 h31
    have KX31 : Gd X Y 0 σ26 [(0, .ref (adr Y 0)), (1, .long vq25)] 73 [] := by
      refine g_ldc2 hX d_O_digest_73 q_423 ?_
      refine g_lload_n hX d_O_digest_76 1 rfl ?_
      refine g_lmul hX d_O_digest_77 ?_
      refine g_aload_n hX d_O_digest_78 0 rfl ?_
      obtain ⟨vq47, h48, h49⟩ := obind h31
      refine g_callV hX [] [.long (31 * vq25)] mv_O_219 (c_O_many X.2.1 Y σ26 _ h48) (by decide) iw_0 sh_0 rfl rfl rfl (Nat.le_of_ble_eq_true rfl) d_O_digest_79 (fun h50 => ?_)
      show Gd X Y 0 σ26 [(0, .ref (adr Y 0)), (1, .long vq25)] 82 [.long vq47, .long (31 * vq25)]
      refine g_ladd hX d_O_digest_82 ?_
      refine g_lstore_n hX (fun vq51 => [(1, .long vq51), (0, .ref (adr Y 0))]) d_O_digest_83 (by decide) (fun _ => rfl) h49 (fun vq51 h52 => ?_)
      refine g_iconst hX (-1) d_O_digest_84 (by decide) ?_
      refine g_istore_nV hX [(3, .int (-1)), (1, .long vq51), (0, .ref (adr Y 0))] d_O_digest_85 (by decide) rfl ?_
      obtain ⟨vq55, h59, h60⟩ := obind h52
      have KX60 : Gd X Y 0 σ26 [(0, .ref (adr Y 0)), (1, .long vq55)] 111 [] := by
        refine g_iconst hX 0 d_O_digest_111 (by decide) ?_
        refine g_istore_nV hX [(3, .int 0), (0, .ref (adr Y 0)), (1, .long vq55)] d_O_digest_112 (by decide) rfl ?_
        obtain ⟨vq74, h78, h79⟩ := obind h60
        have KX79 : Gd X Y 0 σ26 [(0, .ref (adr Y 0)), (1, .long vq74)] 155 [] := by
          refine g_getst hX (k := 1) (by decide) q_429 d_O_digest_155 ?_
          refine g_astore_n hX [(3, .ref (sad Y 1)), (0, .ref (adr Y 0)), (1, .long vq74)] d_O_digest_158 (by decide) rfl ?_
          refine g_aload_n hX d_O_digest_159 0 rfl ?_
          refine g_alenS hX (v := 5) (by decide) (by decide) d_O_digest_160 ?_
          refine g_istoreV hX [(4, .int 5), (3, .ref (sad Y 1)), (0, .ref (adr Y 0)), (1, .long vq74)] d_O_digest_161 (by decide) rfl ?_
          refine g_iconst hX 0 d_O_digest_163 (by decide) ?_
          refine g_istoreV hX [(5, .int 0), (4, .int 5), (3, .ref (sad Y 1)), (0, .ref (adr Y 0)), (1, .long vq74)] d_O_digest_164 (by decide) rfl ?_
          obtain ⟨⟨vq107, σ108⟩, h112, h113⟩ := obind h79
          have h113 := lt2 h113
          have KX113 : Gd X Y 0 σ108 [(0, .ref (adr Y 0)), (1, .long vq107)] 217 [] := by
            refine g_getst hX (k := 2) (by decide) q_431 d_O_digest_217 ?_
            refine g_astore_n hX [(3, .ref (sad Y 2)), (0, .ref (adr Y 0)), (1, .long vq107)] d_O_digest_220 (by decide) rfl ?_
            refine g_aload_n hX d_O_digest_221 0 rfl ?_
            refine g_alenS hX (v := 6) (by decide) (by decide) d_O_digest_222 ?_
            refine g_istoreV hX [(4, .int 6), (3, .ref (sad Y 2)), (0, .ref (adr Y 0)), (1, .long vq107)] d_O_digest_223 (by decide) rfl ?_
            refine g_iconst hX 0 d_O_digest_225 (by decide) ?_
            refine g_istoreV hX [(5, .int 0), (4, .int 6), (3, .ref (sad Y 2)), (0, .ref (adr Y 0)), (1, .long vq107)] d_O_digest_226 (by decide) rfl ?_
            obtain ⟨⟨vq146, σ147⟩, h151, h152⟩ := obind h113
            have h152 := lt2 h152
            have KX152 : Gd X Y 0 σ147 [(0, .ref (adr Y 0)), (1, .long vq146)] 275 [] := by
              refine g_iconst hX 0 d_O_digest_275 (by decide) ?_
              refine g_istore_nV hX [(3, .int 0), (0, .ref (adr Y 0)), (1, .long vq146)] d_O_digest_276 (by decide) rfl ?_
              obtain ⟨vq176, h180, h181⟩ := obind h152
              have KX181 : Gd X Y 0 σ147 [(0, .ref (adr Y 0)), (1, .long vq176)] 341 [] := by
                refine g_ldc2 hX d_O_digest_341 q_423 ?_
                refine g_lload_n hX d_O_digest_344 1 rfl ?_
                refine g_lmul hX d_O_digest_345 ?_
                refine g_aload_n hX d_O_digest_346 0 rfl ?_
                obtain ⟨⟨vq212, σ213⟩, h214, h215⟩ := obind h181
                have h215 := lt2 h215
                refine g_callV hX [] [.long (31 * vq176)] mv_O_246 (c_O_spare X.2.1 Y σ147 _ h214) (by decide) iw_0 sh_0 rfl rfl rfl (Nat.le_of_ble_eq_true rfl) d_O_digest_347 (fun h216 => ?_)
                show Gd X Y 0 σ213 [(0, .ref (adr Y 0)), (1, .long vq176)] 350 [.int vq212, .long (31 * vq176)]
                refine g_i2l hX d_O_digest_350 ?_
                refine g_ladd hX d_O_digest_351 ?_
                refine g_lstore_n hX (fun vq217 => [(1, .long vq217), (0, .ref (adr Y 0))]) d_O_digest_352 (by decide) (fun _ => rfl) h215 (fun vq217 h218 => ?_)
                refine g_ldc2 hX d_O_digest_353 q_423 ?_
                refine g_lload_n hX d_O_digest_356 0 rfl ?_
                refine g_lmul hX d_O_digest_357 ?_
                refine g_aload_n hX d_O_digest_358 1 rfl ?_
                obtain ⟨vq219, h220, h221⟩ := obind h218
                refine g_callV hX [] [.long (31 * vq217)] mv_O_157 (c_O_fault X.2.1 Y σ213 _ h220) (by decide) iw_0 sh_0 rfl rfl rfl (Nat.le_of_ble_eq_true rfl) d_O_digest_359 (fun h222 => ?_)
                show Gd X Y 0 σ213 [(1, .long vq217), (0, .ref (adr Y 0))] 362 [.int vq219, .long (31 * vq217)]
                refine g_i2l hX d_O_digest_362 ?_
                refine g_ladd hX d_O_digest_363 ?_
                refine g_lstore_n hX (fun vq223 => [(1, .long vq223), (0, .ref (adr Y 0))]) d_O_digest_364 (by decide) (fun _ => rfl) h221 (fun vq223 h224 => ?_)
                refine g_ldc2 hX d_O_digest_365 q_423 ?_
                refine g_lload_n hX d_O_digest_368 0 rfl ?_
                refine g_lmul hX d_O_digest_369 ?_
                refine g_aload_n hX d_O_digest_370 1 rfl ?_
                obtain ⟨⟨vq225, σ226⟩, h227, h228⟩ := obind h224
                have h228 := lt2 h228
                refine g_callV hX [] [.long (31 * vq223)] mv_O_166 (c_O_misses X.2.1 Y σ213 _ h227) (by decide) iw_0 sh_0 rfl rfl rfl (Nat.le_of_ble_eq_true rfl) d_O_digest_371 (fun h229 => ?_)
                show Gd X Y 0 σ226 [(1, .long vq223), (0, .ref (adr Y 0))] 374 [.int vq225, .long (31 * vq223)]
                refine g_i2l hX d_O_digest_374 ?_
                refine g_ladd hX d_O_digest_375 ?_
                refine g_lstore_n hX (fun vq230 => [(1, .long vq230), (0, .ref (adr Y 0))]) d_O_digest_376 (by decide) (fun _ => rfl) h228 (fun vq230 h231 => ?_)
                refine g_ldc2 hX d_O_digest_377 q_423 ?_
                refine g_lload_n hX d_O_digest_380 0 rfl ?_
                refine g_lmul hX d_O_digest_381 ?_
                refine g_aload_n hX d_O_digest_382 1 rfl ?_
                obtain ⟨⟨vq232, σ233⟩, h234, h235⟩ := obind h231
                have h235 := lt2 h235
                refine g_callV hX [] [.long (31 * vq230)] mv_O_249 (c_O_number X.2.1 Y σ226 _ h234) (by decide) iw_0 sh_0 rfl rfl rfl (Nat.le_of_ble_eq_true rfl) d_O_digest_383 (fun h236 => ?_)
                show Gd X Y 0 σ233 [(1, .long vq230), (0, .ref (adr Y 0))] 386 [.int vq232, .long (31 * vq230)]
                refine g_i2l hX d_O_digest_386 ?_
                refine g_ladd hX d_O_digest_387 ?_
                cases h235
                exact g_lreturn hX hR d_O_digest_388
              refine g_sub (lv2 := [(0, .ref (adr Y 0)), (1, .long vq146), (3, .int 0)]) [1, 2, 0] rfl ?_
              refine g_loop (fun s => O_digest_b10 σ147 s.1 s.2) (fun s => Gd X Y 0 σ147 [(0, .ref (adr Y 0)), (1, .long s.1), (3, .int s.2)] 277 []) vq176 ?_ fuel (vq146, 0) h180
              intro s y179 h179 h177 h178
              obtain ⟨vq174, vq175⟩ := s
              have h179 : O_digest_b10 σ147 vq174 vq175 = some y179 := h179
              unfold O_digest_b10 at h179
              show Gd X Y 0 σ147 [(0, .ref (adr Y 0)), (1, .long vq174), (3, .int vq175)] 277 []
              refine g_iload_n hX d_O_digest_277 2 rfl ?_
              refine g_aload_n hX d_O_digest_278 0 rfl ?_
              refine g_getI hX iw_0 sh_0 rfl fl_O_9.f d_O_digest_279 ?_
              refine g_icmp_ge hX 341 d_O_digest_282 (by decide) h179 (fun h183 => ?_) (fun h184 => ?_)
              · refine g_sub (lv2 := [(0, .ref (adr Y 0)), (1, .long vq174)]) [0, 1] rfl ?_
                cases h183
                have h182 := h178 vq174 rfl
                cases h182
                exact KX181
              · refine g_iconst hX 0 d_O_digest_285 (by decide) ?_
                refine g_istoreV hX [(4, .int 0), (0, .ref (adr Y 0)), (1, .long vq174), (3, .int vq175)] d_O_digest_286 (by decide) rfl ?_
                obtain ⟨vq187, h191, h192⟩ := obind h184
                have KX192 : Gd X Y 0 σ147 [(0, .ref (adr Y 0)), (1, .long vq187), (3, .int vq175)] 335 [] := by
                  refine g_iinc hX (fun vq210 => [(3, .int vq210), (0, .ref (adr Y 0)), (1, .long vq187)]) d_O_digest_335 2 rfl rfl (by decide) (fun _ => rfl) h192 (fun vq210 h211 => ?_)
                  refine g_goto hX 277 d_O_digest_338 (by decide) ?_
                  refine g_sub (lv2 := [(0, .ref (adr Y 0)), (1, .long vq187), (3, .int vq210)]) [1, 2, 0] rfl ?_
                  cases h211
                  exact h177 (vq187, vq210) rfl
                refine g_sub (lv2 := [(0, .ref (adr Y 0)), (1, .long vq174), (3, .int vq175), (4, .int 0)]) [1, 2, 3, 0] rfl ?_
                refine g_loop (fun s => O_digest_b9 σ147 vq175 s.1 s.2) (fun s => Gd X Y 0 σ147 [(0, .ref (adr Y 0)), (1, .long s.1), (3, .int vq175), (4, .int s.2)] 288 []) vq187 ?_ fuel (vq174, 0) h191
                intro s y190 h190 h188 h189
                obtain ⟨vq185, vq186⟩ := s
                have h190 : O_digest_b9 σ147 vq175 vq185 vq186 = some y190 := h190
                unfold O_digest_b9 at h190
                show Gd X Y 0 σ147 [(0, .ref (adr Y 0)), (1, .long vq185), (3, .int vq175), (4, .int vq186)] 288 []
                refine g_iload hX d_O_digest_288 3 rfl ?_
                refine g_aload_n hX d_O_digest_290 0 rfl ?_
                refine g_getI hX iw_0 sh_0 rfl fl_O_9.f d_O_digest_291 ?_
                refine g_icmp_ge hX 335 d_O_digest_294 (by decide) h190 (fun h194 => ?_) (fun h195 => ?_)
                · refine g_sub (lv2 := [(0, .ref (adr Y 0)), (1, .long vq185), (3, .int vq175)]) [0, 1, 2] rfl ?_
                  cases h194
                  have h193 := h189 vq185 rfl
                  cases h193
                  exact KX192
                · refine g_ldc2 hX d_O_digest_297 q_423 ?_
                  refine g_lload_n hX d_O_digest_300 1 rfl ?_
                  refine g_lmul hX d_O_digest_301 ?_
                  refine g_aload_n hX d_O_digest_302 0 rfl ?_
                  refine g_iload_n hX d_O_digest_303 2 rfl ?_
                  refine g_iload hX d_O_digest_304 3 rfl ?_
                  refine g_iconst hX 0 d_O_digest_306 (by decide) ?_
                  obtain ⟨vq196, h197, h198⟩ := obind h195
                  refine g_callV hX [.int vq175, .int vq186, .int 0] [.long (31 * vq185)] mv_O_243 (c_O_apart X.2.1 Y vq175 vq186 0 σ147 _ h197) (by decide) iw_0 sh_0 rfl rfl rfl (Nat.le_of_ble_eq_true rfl) d_O_digest_307 (fun h199 => ?_)
                  show Gd X Y 0 σ147 [(0, .ref (adr Y 0)), (1, .long vq185), (3, .int vq175), (4, .int vq186)] 310 [.int vq196, .long (31 * vq185)]
                  refine g_i2l hX d_O_digest_310 ?_
                  refine g_ladd hX d_O_digest_311 ?_
                  refine g_lstore_n hX (fun vq200 => [(1, .long vq200), (0, .ref (adr Y 0)), (3, .int vq175), (4, .int vq186)]) d_O_digest_312 (by decide) (fun _ => rfl) h198 (fun vq200 h201 => ?_)
                  refine g_ldc2 hX d_O_digest_313 q_423 ?_
                  refine g_lload_n hX d_O_digest_316 0 rfl ?_
                  refine g_lmul hX d_O_digest_317 ?_
                  refine g_aload_n hX d_O_digest_318 1 rfl ?_
                  refine g_iload_n hX d_O_digest_319 2 rfl ?_
                  refine g_iload hX d_O_digest_320 3 rfl ?_
                  refine g_iconst hX 1 d_O_digest_322 (by decide) ?_
                  obtain ⟨vq202, h203, h204⟩ := obind h201
                  refine g_callV hX [.int vq175, .int vq186, .int 1] [.long (31 * vq200)] mv_O_243 (c_O_apart X.2.1 Y vq175 vq186 1 σ147 _ h203) (by decide) iw_0 sh_0 rfl rfl rfl (Nat.le_of_ble_eq_true rfl) d_O_digest_323 (fun h205 => ?_)
                  show Gd X Y 0 σ147 [(1, .long vq200), (0, .ref (adr Y 0)), (3, .int vq175), (4, .int vq186)] 326 [.int vq202, .long (31 * vq200)]
                  refine g_i2l hX d_O_digest_326 ?_
                  refine g_ladd hX d_O_digest_327 ?_
                  refine g_lstore_n hX (fun vq206 => [(1, .long vq206), (0, .ref (adr Y 0)), (3, .int vq175), (4, .int vq186)]) d_O_digest_328 (by decide) (fun _ => rfl) h204 (fun vq206 h207 => ?_)
                  refine g_iinc hX (fun vq208 => [(4, .int vq208), (1, .long vq206), (0, .ref (adr Y 0)), (3, .int vq175)]) d_O_digest_329 3 rfl rfl (by decide) (fun _ => rfl) h207 (fun vq208 h209 => ?_)
                  refine g_goto hX 288 d_O_digest_332 (by decide) ?_
                  refine g_sub (lv2 := [(0, .ref (adr Y 0)), (1, .long vq206), (3, .int vq175), (4, .int vq208)]) [2, 1, 3, 0] rfl ?_
                  cases h209
                  exact h188 (vq206, vq208) rfl
            refine g_sub (lv2 := [(0, .ref (adr Y 0)), (1, .long vq107), (3, .ref (sad Y 2)), (4, .int 6), (5, .int 0)]) [3, 4, 2, 1, 0] rfl ?_
            refine g_loop (fun s => O_digest_b8 s.1 s.2.1 s.2.2) (fun s => Gd X Y 0 s.2.2 [(0, .ref (adr Y 0)), (1, .long s.1), (3, .ref (sad Y 2)), (4, .int 6), (5, .int s.2.1)] 228 []) (vq146, σ147) ?_ fuel (vq107, 0, σ108) h151
            intro s y150 h150 h148 h149
            obtain ⟨vq143, vq144, σ145⟩ := s
            have h150 : O_digest_b8 vq143 vq144 σ145 = some y150 := h150
            unfold O_digest_b8 at h150
            show Gd X Y 0 σ145 [(0, .ref (adr Y 0)), (1, .long vq143), (3, .ref (sad Y 2)), (4, .int 6), (5, .int vq144)] 228 []
            refine g_iload hX d_O_digest_228 4 rfl ?_
            refine g_iload hX d_O_digest_230 3 rfl ?_
            refine g_icmp_ge hX 275 d_O_digest_232 (by decide) h150 (fun h154 => ?_) (fun h155 => ?_)
            · refine g_sub (lv2 := [(0, .ref (adr Y 0)), (1, .long vq143)]) [0, 1] rfl ?_
              cases h154
              have h153 := h149 (vq143, σ145) rfl
              cases h153
              exact KX152
            · refine g_aload_n hX d_O_digest_235 2 rfl ?_
              refine g_iload hX d_O_digest_236 4 rfl ?_
              refine g_ialoadS hX (by decide) d_O_digest_238 h155 (fun vq156 h157 => ?_)
              refine g_istoreV hX [(6, .int vq156), (0, .ref (adr Y 0)), (1, .long vq143), (3, .ref (sad Y 2)), (4, .int 6), (5, .int vq144)] d_O_digest_239 (by decide) rfl ?_
              refine g_ldc2 hX d_O_digest_241 q_423 ?_
              refine g_lload_n hX d_O_digest_244 2 rfl ?_
              refine g_lmul hX d_O_digest_245 ?_
              refine g_aload_n hX d_O_digest_246 1 rfl ?_
              refine g_iload hX d_O_digest_247 0 rfl ?_
              obtain ⟨⟨vq158, σ159⟩, h160, h161⟩ := obind h157
              have h161 := lt2 h161
              refine g_callV hX [.int vq156] [.long (31 * vq143)] mv_O_237 (c_O_may X.2.1 Y vq156 σ145 _ h160) (by decide) iw_0 sh_0 rfl rfl rfl (Nat.le_of_ble_eq_true rfl) d_O_digest_249 (fun h162 => ?_)
              show Gd X Y 0 σ159 [(6, .int vq156), (0, .ref (adr Y 0)), (1, .long vq143), (3, .ref (sad Y 2)), (4, .int 6), (5, .int vq144)] 252 [.int vq158, .long (31 * vq143)]
              refine g_i2l hX d_O_digest_252 ?_
              refine g_ladd hX d_O_digest_253 ?_
              refine g_lstore_n hX (fun vq163 => [(1, .long vq163), (6, .int vq156), (0, .ref (adr Y 0)), (3, .ref (sad Y 2)), (4, .int 6), (5, .int vq144)]) d_O_digest_254 (by decide) (fun _ => rfl) h161 (fun vq163 h164 => ?_)
              refine g_ldc2 hX d_O_digest_255 q_423 ?_
              refine g_lload_n hX d_O_digest_258 0 rfl ?_
              refine g_lmul hX d_O_digest_259 ?_
              refine g_aload_n hX d_O_digest_260 2 rfl ?_
              refine g_iload hX d_O_digest_261 1 rfl ?_
              obtain ⟨⟨vq165, σ166⟩, h167, h168⟩ := obind h164
              have h168 := lt2 h168
              refine g_callV hX [.int vq156] [.long (31 * vq163)] mv_O_240 (c_O_must X.2.1 Y vq156 σ159 _ h167) (by decide) iw_0 sh_0 rfl rfl rfl (Nat.le_of_ble_eq_true rfl) d_O_digest_263 (fun h169 => ?_)
              show Gd X Y 0 σ166 [(1, .long vq163), (6, .int vq156), (0, .ref (adr Y 0)), (3, .ref (sad Y 2)), (4, .int 6), (5, .int vq144)] 266 [.int vq165, .long (31 * vq163)]
              refine g_i2l hX d_O_digest_266 ?_
              refine g_ladd hX d_O_digest_267 ?_
              refine g_lstore_n hX (fun vq170 => [(1, .long vq170), (6, .int vq156), (0, .ref (adr Y 0)), (3, .ref (sad Y 2)), (4, .int 6), (5, .int vq144)]) d_O_digest_268 (by decide) (fun _ => rfl) h168 (fun vq170 h171 => ?_)
              refine g_iinc hX (fun vq172 => [(5, .int vq172), (1, .long vq170), (6, .int vq156), (0, .ref (adr Y 0)), (3, .ref (sad Y 2)), (4, .int 6)]) d_O_digest_269 5 rfl rfl (by decide) (fun _ => rfl) h171 (fun vq172 h173 => ?_)
              refine g_goto hX 228 d_O_digest_272 (by decide) ?_
              refine g_sub (lv2 := [(0, .ref (adr Y 0)), (1, .long vq170), (3, .ref (sad Y 2)), (4, .int 6), (5, .int vq172)]) [3, 1, 4, 5, 0] rfl ?_
              cases h173
              exact h148 (vq170, vq172, σ166) rfl
          refine g_sub (lv2 := [(0, .ref (adr Y 0)), (1, .long vq74), (3, .ref (sad Y 1)), (4, .int 5), (5, .int 0)]) [3, 4, 2, 1, 0] rfl ?_
          refine g_loop (fun s => O_digest_b7 s.1 s.2.1 s.2.2) (fun s => Gd X Y 0 s.2.2 [(0, .ref (adr Y 0)), (1, .long s.1), (3, .ref (sad Y 1)), (4, .int 5), (5, .int s.2.1)] 166 []) (vq107, σ108) ?_ fuel (vq74, 0, σ26) h112
          intro s y111 h111 h109 h110
          obtain ⟨vq104, vq105, σ106⟩ := s
          have h111 : O_digest_b7 vq104 vq105 σ106 = some y111 := h111
          unfold O_digest_b7 at h111
          show Gd X Y 0 σ106 [(0, .ref (adr Y 0)), (1, .long vq104), (3, .ref (sad Y 1)), (4, .int 5), (5, .int vq105)] 166 []
          refine g_iload hX d_O_digest_166 4 rfl ?_
          refine g_iload hX d_O_digest_168 3 rfl ?_
          refine g_icmp_ge hX 217 d_O_digest_170 (by decide) h111 (fun h115 => ?_) (fun h116 => ?_)
          · refine g_sub (lv2 := [(0, .ref (adr Y 0)), (1, .long vq104)]) [0, 1] rfl ?_
            cases h115
            have h114 := h110 (vq104, σ106) rfl
            cases h114
            exact KX113
          · refine g_aload_n hX d_O_digest_173 2 rfl ?_
            refine g_iload hX d_O_digest_174 4 rfl ?_
            refine g_ialoadS hX (by decide) d_O_digest_176 h116 (fun vq117 h118 => ?_)
            refine g_istoreV hX [(6, .int vq117), (0, .ref (adr Y 0)), (1, .long vq104), (3, .ref (sad Y 1)), (4, .int 5), (5, .int vq105)] d_O_digest_177 (by decide) rfl ?_
            refine g_iconst hX 0 d_O_digest_179 (by decide) ?_
            refine g_istoreV hX [(7, .int 0), (6, .int vq117), (0, .ref (adr Y 0)), (1, .long vq104), (3, .ref (sad Y 1)), (4, .int 5), (5, .int vq105)] d_O_digest_180 (by decide) rfl ?_
            obtain ⟨⟨vq122, σ123⟩, h127, h128⟩ := obind h118
            have h128 := lt2 h128
            have KX128 : Gd X Y 0 σ123 [(0, .ref (adr Y 0)), (1, .long vq122), (3, .ref (sad Y 1)), (4, .int 5), (5, .int vq105)] 211 [] := by
              refine g_iinc hX (fun vq141 => [(5, .int vq141), (0, .ref (adr Y 0)), (1, .long vq122), (3, .ref (sad Y 1)), (4, .int 5)]) d_O_digest_211 4 rfl rfl (by decide) (fun _ => rfl) h128 (fun vq141 h142 => ?_)
              refine g_goto hX 166 d_O_digest_214 (by decide) ?_
              refine g_sub (lv2 := [(0, .ref (adr Y 0)), (1, .long vq122), (3, .ref (sad Y 1)), (4, .int 5), (5, .int vq141)]) [1, 2, 3, 4, 0] rfl ?_
              cases h142
              exact h109 (vq122, vq141, σ123) rfl
            refine g_sub (lv2 := [(0, .ref (adr Y 0)), (1, .long vq104), (3, .ref (sad Y 1)), (4, .int 5), (5, .int vq105), (6, .int vq117), (7, .int 0)]) [2, 3, 4, 5, 6, 1, 0] rfl ?_
            refine g_loop (fun s => O_digest_b6 vq117 s.1 s.2.1 s.2.2) (fun s => Gd X Y 0 s.2.2 [(0, .ref (adr Y 0)), (1, .long s.1), (3, .ref (sad Y 1)), (4, .int 5), (5, .int vq105), (6, .int vq117), (7, .int s.2.1)] 182 []) (vq122, σ123) ?_ fuel (vq104, 0, σ106) h127
            intro s y126 h126 h124 h125
            obtain ⟨vq119, vq120, σ121⟩ := s
            have h126 : O_digest_b6 vq117 vq119 vq120 σ121 = some y126 := h126
            unfold O_digest_b6 at h126
            show Gd X Y 0 σ121 [(0, .ref (adr Y 0)), (1, .long vq119), (3, .ref (sad Y 1)), (4, .int 5), (5, .int vq105), (6, .int vq117), (7, .int vq120)] 182 []
            refine g_iload hX d_O_digest_182 6 rfl ?_
            refine g_bipush hX 8 d_O_digest_184 (by decide) ?_
            refine g_icmp_ge hX 211 d_O_digest_186 (by decide) h126 (fun h130 => ?_) (fun h131 => ?_)
            · refine g_sub (lv2 := [(0, .ref (adr Y 0)), (1, .long vq119), (3, .ref (sad Y 1)), (4, .int 5), (5, .int vq105)]) [0, 1, 2, 3, 4] rfl ?_
              cases h130
              have h129 := h125 (vq119, σ121) rfl
              cases h129
              exact KX128
            · refine g_ldc2 hX d_O_digest_189 q_423 ?_
              refine g_lload_n hX d_O_digest_192 1 rfl ?_
              refine g_lmul hX d_O_digest_193 ?_
              refine g_aload_n hX d_O_digest_194 0 rfl ?_
              refine g_iload hX d_O_digest_195 5 rfl ?_
              refine g_iload hX d_O_digest_197 6 rfl ?_
              obtain ⟨⟨vq132, σ133⟩, h134, h135⟩ := obind h131
              have h135 := lt2 h135
              refine g_callV hX [.int vq117, .int vq120] [.long (31 * vq119)] mv_O_231 (c_O_row X.2.1 Y vq117 vq120 σ121 _ h134) (by decide) iw_0 sh_0 rfl rfl rfl (Nat.le_of_ble_eq_true rfl) d_O_digest_199 (fun h136 => ?_)
              show Gd X Y 0 σ133 [(0, .ref (adr Y 0)), (1, .long vq119), (3, .ref (sad Y 1)), (4, .int 5), (5, .int vq105), (6, .int vq117), (7, .int vq120)] 202 [.int vq132, .long (31 * vq119)]
              refine g_i2l hX d_O_digest_202 ?_
              refine g_ladd hX d_O_digest_203 ?_
              refine g_lstore_n hX (fun vq137 => [(1, .long vq137), (0, .ref (adr Y 0)), (3, .ref (sad Y 1)), (4, .int 5), (5, .int vq105), (6, .int vq117), (7, .int vq120)]) d_O_digest_204 (by decide) (fun _ => rfl) h135 (fun vq137 h138 => ?_)
              refine g_iinc hX (fun vq139 => [(7, .int vq139), (1, .long vq137), (0, .ref (adr Y 0)), (3, .ref (sad Y 1)), (4, .int 5), (5, .int vq105), (6, .int vq117)]) d_O_digest_205 6 rfl rfl (by decide) (fun _ => rfl) h138 (fun vq139 h140 => ?_)
              refine g_goto hX 182 d_O_digest_208 (by decide) ?_
              refine g_sub (lv2 := [(0, .ref (adr Y 0)), (1, .long vq137), (3, .ref (sad Y 1)), (4, .int 5), (5, .int vq105), (6, .int vq117), (7, .int vq139)]) [2, 1, 3, 4, 5, 6, 0] rfl ?_
              cases h140
              exact h124 (vq137, vq139, σ133) rfl
        refine g_sub (lv2 := [(0, .ref (adr Y 0)), (1, .long vq55), (3, .int 0)]) [1, 2, 0] rfl ?_
        refine g_loop (fun s => O_digest_b5 σ26 s.1 s.2) (fun s => Gd X Y 0 σ26 [(0, .ref (adr Y 0)), (1, .long s.1), (3, .int s.2)] 113 []) vq74 ?_ fuel (vq55, 0) h78
        intro s y77 h77 h75 h76
        obtain ⟨vq72, vq73⟩ := s
        have h77 : O_digest_b5 σ26 vq72 vq73 = some y77 := h77
        unfold O_digest_b5 at h77
        show Gd X Y 0 σ26 [(0, .ref (adr Y 0)), (1, .long vq72), (3, .int vq73)] 113 []
        refine g_iload_n hX d_O_digest_113 2 rfl ?_
        refine g_bipush hX 7 d_O_digest_114 (by decide) ?_
        refine g_icmp_ge hX 155 d_O_digest_116 (by decide) h77 (fun h81 => ?_) (fun h82 => ?_)
        · refine g_sub (lv2 := [(0, .ref (adr Y 0)), (1, .long vq72)]) [0, 1] rfl ?_
          cases h81
          have h80 := h76 vq72 rfl
          cases h80
          exact KX79
        · refine g_iconst hX 0 d_O_digest_119 (by decide) ?_
          refine g_istoreV hX [(4, .int 0), (0, .ref (adr Y 0)), (1, .long vq72), (3, .int vq73)] d_O_digest_120 (by decide) rfl ?_
          obtain ⟨vq85, h89, h90⟩ := obind h82
          have KX90 : Gd X Y 0 σ26 [(0, .ref (adr Y 0)), (1, .long vq85), (3, .int vq73)] 149 [] := by
            refine g_iinc hX (fun vq102 => [(3, .int vq102), (0, .ref (adr Y 0)), (1, .long vq85)]) d_O_digest_149 2 rfl rfl (by decide) (fun _ => rfl) h90 (fun vq102 h103 => ?_)
            refine g_goto hX 113 d_O_digest_152 (by decide) ?_
            refine g_sub (lv2 := [(0, .ref (adr Y 0)), (1, .long vq85), (3, .int vq102)]) [1, 2, 0] rfl ?_
            cases h103
            exact h75 (vq85, vq102) rfl
          refine g_sub (lv2 := [(0, .ref (adr Y 0)), (1, .long vq72), (3, .int vq73), (4, .int 0)]) [1, 2, 3, 0] rfl ?_
          refine g_loop (fun s => O_digest_b4 σ26 vq73 s.1 s.2) (fun s => Gd X Y 0 σ26 [(0, .ref (adr Y 0)), (1, .long s.1), (3, .int vq73), (4, .int s.2)] 122 []) vq85 ?_ fuel (vq72, 0) h89
          intro s y88 h88 h86 h87
          obtain ⟨vq83, vq84⟩ := s
          have h88 : O_digest_b4 σ26 vq73 vq83 vq84 = some y88 := h88
          unfold O_digest_b4 at h88
          show Gd X Y 0 σ26 [(0, .ref (adr Y 0)), (1, .long vq83), (3, .int vq73), (4, .int vq84)] 122 []
          refine g_iload hX d_O_digest_122 3 rfl ?_
          refine g_iconst hX 2 d_O_digest_124 (by decide) ?_
          refine g_icmp_gt hX 149 d_O_digest_125 (by decide) h88 (fun h92 => ?_) (fun h93 => ?_)
          · refine g_sub (lv2 := [(0, .ref (adr Y 0)), (1, .long vq83), (3, .int vq73)]) [0, 1, 2] rfl ?_
            cases h92
            have h91 := h87 vq83 rfl
            cases h91
            exact KX90
          · refine g_ldc2 hX d_O_digest_128 q_423 ?_
            refine g_lload_n hX d_O_digest_131 1 rfl ?_
            refine g_lmul hX d_O_digest_132 ?_
            refine g_aload_n hX d_O_digest_133 0 rfl ?_
            refine g_iload_n hX d_O_digest_134 2 rfl ?_
            refine g_iload hX d_O_digest_135 3 rfl ?_
            obtain ⟨vq94, h95, h96⟩ := obind h93
            refine g_callV hX [.int vq73, .int vq84] [.long (31 * vq83)] mv_O_225 (c_O_node X.2.1 Y vq73 vq84 σ26 _ h95) (by decide) iw_0 sh_0 rfl rfl rfl (Nat.le_of_ble_eq_true rfl) d_O_digest_137 (fun h97 => ?_)
            show Gd X Y 0 σ26 [(0, .ref (adr Y 0)), (1, .long vq83), (3, .int vq73), (4, .int vq84)] 140 [.int vq94, .long (31 * vq83)]
            refine g_i2l hX d_O_digest_140 ?_
            refine g_ladd hX d_O_digest_141 ?_
            refine g_lstore_n hX (fun vq98 => [(1, .long vq98), (0, .ref (adr Y 0)), (3, .int vq73), (4, .int vq84)]) d_O_digest_142 (by decide) (fun _ => rfl) h96 (fun vq98 h99 => ?_)
            refine g_iinc hX (fun vq100 => [(4, .int vq100), (1, .long vq98), (0, .ref (adr Y 0)), (3, .int vq73)]) d_O_digest_143 3 rfl rfl (by decide) (fun _ => rfl) h99 (fun vq100 h101 => ?_)
            refine g_goto hX 122 d_O_digest_146 (by decide) ?_
            refine g_sub (lv2 := [(0, .ref (adr Y 0)), (1, .long vq98), (3, .int vq73), (4, .int vq100)]) [2, 1, 3, 0] rfl ?_
            cases h101
            exact h86 (vq98, vq100) rfl
      refine g_sub (lv2 := [(0, .ref (adr Y 0)), (1, .long vq51), (3, .int (-1))]) [2, 1, 0] rfl ?_
      refine g_loop (fun s => O_digest_b3 σ26 s.1 s.2) (fun s => Gd X Y 0 σ26 [(0, .ref (adr Y 0)), (1, .long s.1), (3, .int s.2)] 86 []) vq55 ?_ fuel (vq51, (-1)) h59
      intro s y58 h58 h56 h57
      obtain ⟨vq53, vq54⟩ := s
      have h58 : O_digest_b3 σ26 vq53 vq54 = some y58 := h58
      unfold O_digest_b3 at h58
      show Gd X Y 0 σ26 [(0, .ref (adr Y 0)), (1, .long vq53), (3, .int vq54)] 86 []
      refine g_iload_n hX d_O_digest_86 2 rfl ?_
      refine g_bipush hX 40 d_O_digest_87 (by decide) ?_
      refine g_icmp_ge hX 111 d_O_digest_89 (by decide) h58 (fun h62 => ?_) (fun h63 => ?_)
      · refine g_sub (lv2 := [(0, .ref (adr Y 0)), (1, .long vq53)]) [0, 1] rfl ?_
        cases h62
        have h61 := h57 vq53 rfl
        cases h61
        exact KX60
      · refine g_ldc2 hX d_O_digest_92 q_423 ?_
        refine g_lload_n hX d_O_digest_95 1 rfl ?_
        refine g_lmul hX d_O_digest_96 ?_
        refine g_aload_n hX d_O_digest_97 0 rfl ?_
        refine g_iload_n hX d_O_digest_98 2 rfl ?_
        obtain ⟨vq64, h65, h66⟩ := obind h63
        refine g_callV hX [.int vq54] [.long (31 * vq53)] mv_O_222 (c_O_tree X.2.1 Y vq54 σ26 _ h65) (by decide) iw_0 sh_0 rfl rfl rfl (Nat.le_of_ble_eq_true rfl) d_O_digest_99 (fun h67 => ?_)
        show Gd X Y 0 σ26 [(0, .ref (adr Y 0)), (1, .long vq53), (3, .int vq54)] 102 [.int vq64, .long (31 * vq53)]
        refine g_i2l hX d_O_digest_102 ?_
        refine g_ladd hX d_O_digest_103 ?_
        refine g_lstore_n hX (fun vq68 => [(1, .long vq68), (0, .ref (adr Y 0)), (3, .int vq54)]) d_O_digest_104 (by decide) (fun _ => rfl) h66 (fun vq68 h69 => ?_)
        refine g_iinc hX (fun vq70 => [(3, .int vq70), (1, .long vq68), (0, .ref (adr Y 0))]) d_O_digest_105 2 rfl rfl (by decide) (fun _ => rfl) h69 (fun vq70 h71 => ?_)
        refine g_goto hX 86 d_O_digest_108 (by decide) ?_
        refine g_sub (lv2 := [(0, .ref (adr Y 0)), (1, .long vq68), (3, .int vq70)]) [2, 1, 0] rfl ?_
        cases h71
        exact h56 (vq68, vq70) rfl
    refine g_sub (lv2 := [(0, .ref (adr Y 0)), (1, .long vq5), (3, .int 0)]) [1, 2, 0] rfl ?_
    refine g_loop (fun s => O_digest_b2 s.1 s.2.1 s.2.2) (fun s => Gd X Y 0 s.2.2 [(0, .ref (adr Y 0)), (1, .long s.1), (3, .int s.2.1)] 33 []) (vq25, σ26) ?_ fuel (vq5, 0, σ) h30
    intro s y29 h29 h27 h28
    obtain ⟨vq22, vq23, σ24⟩ := s
    have h29 : O_digest_b2 vq22 vq23 σ24 = some y29 := h29
    unfold O_digest_b2 at h29
    show Gd X Y 0 σ24 [(0, .ref (adr Y 0)), (1, .long vq22), (3, .int vq23)] 33 []
    refine g_iload_n hX d_O_digest_33 2 rfl ?_
    refine g_aload_n hX d_O_digest_34 0 rfl ?_
    refine g_getI hX iw_0 sh_0 rfl fl_O_17.f d_O_digest_35 ?_
    refine g_icmp_ge hX 73 d_O_digest_38 (by decide) h29 (fun h33 => ?_) (fun h34 => ?_)
    · refine g_sub (lv2 := [(0, .ref (adr Y 0)), (1, .long vq22)]) [0, 1] rfl ?_
      cases h33
      have h32 := h28 (vq22, σ24) rfl
      cases h32
      exact KX31
    · refine g_ldc2 hX d_O_digest_41 q_423 ?_
      refine g_lload_n hX d_O_digest_44 1 rfl ?_
      refine g_lmul hX d_O_digest_45 ?_
      refine g_aload_n hX d_O_digest_46 0 rfl ?_
      refine g_iload_n hX d_O_digest_47 2 rfl ?_
      refine g_callV hX [.int vq23] [.long (31 * vq22)] mv_O_85 (c_O_taken X.2.1 Y vq23 σ24 _ rfl) (by decide) iw_0 sh_0 rfl rfl rfl (Nat.le_of_ble_eq_true rfl) d_O_digest_48 (fun h35 => ?_)
      show Gd X Y 0 σ24 [(0, .ref (adr Y 0)), (1, .long vq22), (3, .int vq23)] 51 [.int (O_taken vq23 σ24), .long (31 * vq22)]
      refine g_i2l hX d_O_digest_51 ?_
      refine g_ladd hX d_O_digest_52 ?_
      refine g_lstore_n hX (fun vq36 => [(1, .long vq36), (0, .ref (adr Y 0)), (3, .int vq23)]) d_O_digest_53 (by decide) (fun _ => rfl) h34 (fun vq36 h37 => ?_)
      refine g_ldc2 hX d_O_digest_54 q_423 ?_
      refine g_lload_n hX d_O_digest_57 0 rfl ?_
      refine g_lmul hX d_O_digest_58 ?_
      refine g_aload_n hX d_O_digest_59 1 rfl ?_
      refine g_iload_n hX d_O_digest_60 2 rfl ?_
      obtain ⟨⟨vq38, σ39⟩, h40, h41⟩ := obind h37
      have h41 := lt2 h41
      refine g_callV hX [.int vq23] [.long (31 * vq36)] mv_O_216 (c_O_reason X.2.1 Y vq23 σ24 _ h40) (by decide) iw_0 sh_0 rfl rfl rfl (Nat.le_of_ble_eq_true rfl) d_O_digest_61 (fun h42 => ?_)
      show Gd X Y 0 σ39 [(1, .long vq36), (0, .ref (adr Y 0)), (3, .int vq23)] 64 [.int vq38, .long (31 * vq36)]
      refine g_i2l hX d_O_digest_64 ?_
      refine g_ladd hX d_O_digest_65 ?_
      refine g_lstore_n hX (fun vq43 => [(1, .long vq43), (0, .ref (adr Y 0)), (3, .int vq23)]) d_O_digest_66 (by decide) (fun _ => rfl) h41 (fun vq43 h44 => ?_)
      refine g_iinc hX (fun vq45 => [(3, .int vq45), (1, .long vq43), (0, .ref (adr Y 0))]) d_O_digest_67 2 rfl rfl (by decide) (fun _ => rfl) h44 (fun vq45 h46 => ?_)
      refine g_goto hX 33 d_O_digest_70 (by decide) ?_
      refine g_sub (lv2 := [(0, .ref (adr Y 0)), (1, .long vq43), (3, .int vq45)]) [2, 1, 0] rfl ?_
      cases h46
      exact h27 (vq43, vq45, σ39) rfl
  refine g_sub (lv2 := [(0, .ref (adr Y 0)), (1, .long vq1), (3, .int 0)]) [2, 1, 0] rfl ?_
  refine g_loop (fun s => O_digest_b1 σ s.1 s.2) (fun s => Gd X Y 0 σ [(0, .ref (adr Y 0)), (1, .long s.1), (3, .int s.2)] 6 []) vq5 ?_ fuel (vq1, 0) h9
  intro s y8 h8 h6 h7
  obtain ⟨vq3, vq4⟩ := s
  have h8 : O_digest_b1 σ vq3 vq4 = some y8 := h8
  unfold O_digest_b1 at h8
  show Gd X Y 0 σ [(0, .ref (adr Y 0)), (1, .long vq3), (3, .int vq4)] 6 []
  refine g_iload_n hX d_O_digest_6 2 rfl ?_
  refine g_bipush hX 7 d_O_digest_7 (by decide) ?_
  refine g_icmp_gt hX 31 d_O_digest_9 (by decide) h8 (fun h12 => ?_) (fun h13 => ?_)
  · refine g_sub (lv2 := [(0, .ref (adr Y 0)), (1, .long vq3)]) [0, 1] rfl ?_
    cases h12
    have h11 := h7 vq3 rfl
    cases h11
    exact KX10
  · refine g_ldc2 hX d_O_digest_12 q_423 ?_
    refine g_lload_n hX d_O_digest_15 1 rfl ?_
    refine g_lmul hX d_O_digest_16 ?_
    refine g_aload_n hX d_O_digest_17 0 rfl ?_
    refine g_iload_n hX d_O_digest_18 2 rfl ?_
    obtain ⟨vq14, h15, h16⟩ := obind h13
    refine g_callV hX [.int vq4] [.long (31 * vq3)] mv_O_213 (c_O_count X.2.1 Y vq4 σ _ h15) (by decide) iw_0 sh_0 rfl rfl rfl (Nat.le_of_ble_eq_true rfl) d_O_digest_19 (fun h17 => ?_)
    show Gd X Y 0 σ [(0, .ref (adr Y 0)), (1, .long vq3), (3, .int vq4)] 22 [.int vq14, .long (31 * vq3)]
    refine g_i2l hX d_O_digest_22 ?_
    refine g_ladd hX d_O_digest_23 ?_
    refine g_lstore_n hX (fun vq18 => [(1, .long vq18), (0, .ref (adr Y 0)), (3, .int vq4)]) d_O_digest_24 (by decide) (fun _ => rfl) h16 (fun vq18 h19 => ?_)
    refine g_iinc hX (fun vq20 => [(3, .int vq20), (1, .long vq18), (0, .ref (adr Y 0))]) d_O_digest_25 2 rfl rfl (by decide) (fun _ => rfl) h19 (fun vq20 h21 => ?_)
    refine g_goto hX 6 d_O_digest_28 (by decide) ?_
    refine g_sub (lv2 := [(0, .ref (adr Y 0)), (1, .long vq18), (3, .int vq20)]) [2, 1, 0] rfl ?_
    cases h21
    exact h6 (vq18, vq20) rfl
