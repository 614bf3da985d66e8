noncomputable def M_isHad_b1 (x1 : Int32) (σ : Mem) (vq1 : Int32) (vq2 : Int32) (vq3 : Int32) : Option ((Int32 × Int32 × Int32) ⊕ (Int32)) := if (σ 43 22) ≤ vq3 then some (.inr vq2) else (rd σ 60 vq3).bind (fun vq13 => lt (1 <<< ((vq13 - 97) &&& 31)) (fun vq15 => lt (vq1 &&& x1) (fun vq17 => lt (if vq2 = 0 then false else if vq17 = 0 then true else if vq17 = x1 then true else if (vq15 &&& x1) = 0 then false else true : Bool) (fun bq19 => lt (if bq19 = true then 1 else 0 : Int32) (fun vq35 => lt (vq1 ||| vq15) (fun vq37 => lt (vq3 + 1) (fun vq39 => some (.inl (vq37, vq35, vq39)))))))))
noncomputable def M_isHad (x1 : Int32) (σ : Mem) : Option (Int32) := (lp (fun s => M_isHad_b1 x1 σ s.1 s.2.1 s.2.2) fuel (0, 1, 0)).bind (fun vq4 => some vq4)
set_option maxHeartbeats 4000000 in
set_option maxRecDepth 100000 in
theorem c_M_isHad (l : Launch) (Y : Wx) (x1 : Int32)  (σ : Mem) (o : Int32) (hf : M_isHad x1 σ = some o) : Ct l Y 1 y_M_isHad b_M_isHad 7 (some .boolean) 0 [.ref (adr Y 43), .int x1] σ (some (.int o)) σ := by
  unfold M_isHad at hf
  refine ct_of (by decide) (Nat.le_of_ble_eq_true rfl) rfl (fun X hXl hX hR => ?_)
  subst hXl
  have hX : Fx X Y 1 b_M_isHad 7 R_M 0 := hX
  refine g_iconst hX 0 d_M_isHad_0 (by decide) ?_
  refine g_istore_nV hX [(2, .int 0), (0, .ref (adr Y 43)), (1, .int x1)] d_M_isHad_1 (by decide) rfl ?_
  refine g_iconst hX 1 d_M_isHad_2 (by decide) ?_
  refine g_istore_nV hX [(3, .int 1), (2, .int 0), (0, .ref (adr Y 43)), (1, .int x1)] d_M_isHad_3 (by decide) rfl ?_
  refine g_iconst hX 0 d_M_isHad_4 (by decide) ?_
  refine g_istoreV hX [(4, .int 0), (3, .int 1), (2, .int 0), (0, .ref (adr Y 43)), (1, .int x1)] d_M_isHad_5 (by decide) rfl ?_
  obtain ⟨vq4, h8, h9⟩ := obind hf
  have KX9 : okR (some .boolean) (some (.int vq4)) → Gd X Y 1 σ [(3, .int vq4)] 74 [] := by
    intro hbxvq4
    refine g_iload_n hX d_M_isHad_74 0 rfl ?_
    cases h9
    exact g_zreturn hX hR hbxvq4 d_M_isHad_75
  refine g_sub (lv2 := [(0, .ref (adr Y 43)), (1, .int x1), (2, .int 0), (3, .int 1), (4, .int 0)]) [3, 4, 2, 1, 0] rfl ?_
  refine g_loop (fun s => M_isHad_b1 x1 σ s.1 s.2.1 s.2.2) (fun s => okR (some .boolean) (some (.int s.2.1)) → Gd X Y 1 σ [(0, .ref (adr Y 43)), (1, .int x1), (2, .int s.1), (3, .int s.2.1), (4, .int s.2.2)] 7 []) vq4 ?_ fuel (0, 1, 0) h8 okB1
  intro s y7 h7 h5 h6
  obtain ⟨vq1, vq2, vq3⟩ := s
  intro hblvq2
  have h7 : M_isHad_b1 x1 σ vq1 vq2 vq3 = some y7 := h7
  unfold M_isHad_b1 at h7
  show Gd X Y 1 σ [(0, .ref (adr Y 43)), (1, .int x1), (2, .int vq1), (3, .int vq2), (4, .int vq3)] 7 []
  refine g_iload hX d_M_isHad_7 4 rfl ?_
  refine g_aload_n hX d_M_isHad_9 0 rfl ?_
  refine g_getI hX iw_43 sh_43 rfl fl_M_223.f d_M_isHad_10 ?_
  refine g_icmp_ge hX 74 d_M_isHad_13 (by decide) h7 (fun h11 => ?_) (fun h12 => ?_)
  · refine g_sub (lv2 := [(3, .int vq2)]) [3] rfl ?_
    cases h11
    have h10 := h6 vq2 rfl
    cases h10
    exact KX9 hblvq2
  · refine g_iconst hX 1 d_M_isHad_16 (by decide) ?_
    refine g_aload_n hX d_M_isHad_17 0 rfl ?_
    refine g_getR hX iw_43 sh_43 rfl fl_M_62 d_M_isHad_18 ?_
    refine g_iload hX d_M_isHad_21 4 rfl ?_
    refine g_iaload hX iw_60 sh_60 d_M_isHad_23 h12 (fun vq13 h14 => ?_)
    refine g_bipush hX 97 d_M_isHad_24 (by decide) ?_
    refine g_isub hX d_M_isHad_26 ?_
    refine g_ishl hX d_M_isHad_27 ?_
    refine g_istore hX (fun vq15 => [(5, .int vq15), (0, .ref (adr Y 43)), (1, .int x1), (2, .int vq1), (3, .int vq2), (4, .int vq3)]) d_M_isHad_28 (by decide) (fun _ => rfl) h14 (fun vq15 h16 => ?_)
    refine g_iload_n hX d_M_isHad_30 3 rfl ?_
    refine g_iload_n hX d_M_isHad_31 2 rfl ?_
    refine g_iand hX d_M_isHad_32 ?_
    refine g_istore hX (fun vq17 => [(6, .int vq17), (5, .int vq15), (0, .ref (adr Y 43)), (1, .int x1), (2, .int vq1), (3, .int vq2), (4, .int vq3)]) d_M_isHad_33 (by decide) (fun _ => rfl) h16 (fun vq17 h18 => ?_)
    refine g_iload_n hX d_M_isHad_35 5 rfl ?_
    obtain ⟨bq19, h20, h21⟩ := ltex h18
    obtain ⟨vq35, h30, h31⟩ := ltex h21
    have KJ31 : okR (some .boolean) (some (.int vq35)) → Gd X Y 1 σ [(0, .ref (adr Y 43)), (1, .int x1), (2, .int vq1), (4, .int vq3), (5, .int vq15)] 62 [.int vq35] := by
      intro hbvq35
      refine g_istore_nV hX [(3, .int vq35), (0, .ref (adr Y 43)), (1, .int x1), (2, .int vq1), (4, .int vq3), (5, .int vq15)] d_M_isHad_62 (by decide) rfl ?_
      refine g_iload_n hX d_M_isHad_63 3 rfl ?_
      refine g_iload hX d_M_isHad_64 5 rfl ?_
      refine g_ior hX d_M_isHad_66 ?_
      refine g_istore_n hX (fun vq37 => [(2, .int vq37), (3, .int vq35), (0, .ref (adr Y 43)), (1, .int x1), (4, .int vq3), (5, .int vq15)]) d_M_isHad_67 (by decide) (fun _ => rfl) h31 (fun vq37 h38 => ?_)
      refine g_iinc hX (fun vq39 => [(4, .int vq39), (2, .int vq37), (3, .int vq35), (0, .ref (adr Y 43)), (1, .int x1), (5, .int vq15)]) d_M_isHad_68 4 rfl rfl (by decide) (fun _ => rfl) h38 (fun vq39 h40 => ?_)
      refine g_goto hX 7 d_M_isHad_71 (by decide) ?_
      refine g_sub (lv2 := [(0, .ref (adr Y 43)), (1, .int x1), (2, .int vq37), (3, .int vq35), (4, .int vq39)]) [3, 4, 1, 2, 0] rfl ?_
      cases h40
      exact h5 (vq37, vq35, vq39) rfl hbvq35
    have Kbq19t : bq19 = true → Gd X Y 1 σ [(6, .int vq17), (5, .int vq15), (0, .ref (adr Y 43)), (1, .int x1), (2, .int vq1), (3, .int vq2), (4, .int vq3)] 57 [] := by
      intro h36
      have h33 := (if_pos h36).symm.trans h30
      refine g_iconst hX 1 d_M_isHad_57 (by decide) ?_
      refine g_goto hX 62 d_M_isHad_58 (by decide) ?_
      refine g_sub (lv2 := [(0, .ref (adr Y 43)), (1, .int x1), (2, .int vq1), (4, .int vq3), (5, .int vq15)]) [2, 3, 4, 6, 1] rfl ?_
      cases h33
      exact KJ31 okB1
    have Kbq19f : ¬ bq19 = true → Gd X Y 1 σ [(6, .int vq17), (5, .int vq15), (0, .ref (adr Y 43)), (1, .int x1), (2, .int vq1), (3, .int vq2), (4, .int vq3)] 61 [] := by
      intro h36
      have h34 := (if_neg h36).symm.trans h30
      refine g_iconst hX 0 d_M_isHad_61 (by decide) ?_
      refine g_sub (lv2 := [(0, .ref (adr Y 43)), (1, .int x1), (2, .int vq1), (4, .int vq3), (5, .int vq15)]) [2, 3, 4, 6, 1] rfl ?_
      cases h34
      exact KJ31 okB0
    refine g_if_eq hX 61 d_M_isHad_36 (by decide) h20 (fun h22 => ?_) (fun h23 => ?_)
    · cases h22
      exact Kbq19f (by decide)
    · refine g_iload hX d_M_isHad_39 0 rfl ?_
      refine g_if_eq hX 57 d_M_isHad_41 (by decide) h23 (fun h24 => ?_) (fun h25 => ?_)
      · cases h24
        exact Kbq19t rfl
      · refine g_iload hX d_M_isHad_44 0 rfl ?_
        refine g_iload_n hX d_M_isHad_46 3 rfl ?_
        refine g_icmp_eq hX 57 d_M_isHad_47 (by decide) h25 (fun h26 => ?_) (fun h27 => ?_)
        · cases h26
          exact Kbq19t rfl
        · refine g_iload hX d_M_isHad_50 1 rfl ?_
          refine g_iload_n hX d_M_isHad_52 3 rfl ?_
          refine g_iand hX d_M_isHad_53 ?_
          refine g_if_eq hX 61 d_M_isHad_54 (by decide) h27 (fun h28 => ?_) (fun h29 => ?_)
          · cases h28
            exact Kbq19f (by decide)
          · cases h29
            exact Kbq19t rfl
noncomputable def M_missesOf_b1 (σ : Mem) (vq1 : Int32) (vq2 : Int32) : Option ((Int32 × Int32) ⊕ (Int32)) := if (σ 43 1) ≤ vq2 then some (.inr vq1) else (rd σ 44 vq2).bind (fun vq12 => (M_isHad (vq12 &&& (M_all σ)) σ).bind (fun vq15 => lt (if vq15 = 0 then (1 <<< (vq2 &&& 31)) else 0 : Int32) (fun vq24 => lt (vq1 ||| vq24) (fun vq25 => lt (vq2 + 1) (fun vq27 => some (.inl (vq25, vq27)))))))
noncomputable def M_missesOf  (σ : Mem) : Option (Int32) := (lp (fun s => M_missesOf_b1 σ s.1 s.2) fuel (0, 0)).bind (fun vq3 => some vq3)
set_option maxHeartbeats 4000000 in
set_option maxRecDepth 100000 in
theorem c_M_missesOf (l : Launch) (Y : Wx)   (σ : Mem) (o : Int32) (hf : M_missesOf σ = some o) : Ct l Y 1 y_M_missesOf b_M_missesOf 3 (some .int) 1 [.ref (adr Y 43)] σ (some (.int o)) σ := by
  unfold M_missesOf at hf
  refine ct_of (by decide) (Nat.le_of_ble_eq_true rfl) rfl (fun X hXl hX hR => ?_)
  subst hXl
  have hX : Fx X Y 1 b_M_missesOf 3 R_M 1 := hX
  refine g_iconst hX 0 d_M_missesOf_0 (by decide) ?_
  refine g_istore_nV hX [(1, .int 0), (0, .ref (adr Y 43))] d_M_missesOf_1 (by decide) rfl ?_
  refine g_iconst hX 0 d_M_missesOf_2 (by decide) ?_
  refine g_istore_nV hX [(2, .int 0), (1, .int 0), (0, .ref (adr Y 43))] d_M_missesOf_3 (by decide) rfl ?_
  obtain ⟨vq3, h7, h8⟩ := obind hf
  have KX8 : Gd X Y 1 σ [(1, .int vq3)] 46 [] := by
    refine g_iload_n hX d_M_missesOf_46 0 rfl ?_
    cases h8
    exact g_ireturn hX hR d_M_missesOf_47
  refine g_sub (lv2 := [(0, .ref (adr Y 43)), (1, .int 0), (2, .int 0)]) [2, 1, 0] rfl ?_
  refine g_loop (fun s => M_missesOf_b1 σ s.1 s.2) (fun s => Gd X Y 1 σ [(0, .ref (adr Y 43)), (1, .int s.1), (2, .int s.2)] 4 []) vq3 ?_ fuel (0, 0) h7
  intro s y6 h6 h4 h5
  obtain ⟨vq1, vq2⟩ := s
  have h6 : M_missesOf_b1 σ vq1 vq2 = some y6 := h6
  unfold M_missesOf_b1 at h6
  show Gd X Y 1 σ [(0, .ref (adr Y 43)), (1, .int vq1), (2, .int vq2)] 4 []
  refine g_iload_n hX d_M_missesOf_4 2 rfl ?_
  refine g_aload_n hX d_M_missesOf_5 0 rfl ?_
  refine g_getI hX iw_43 sh_43 rfl fl_M_93.f d_M_missesOf_6 ?_
  refine g_icmp_ge hX 46 d_M_missesOf_9 (by decide) h6 (fun h10 => ?_) (fun h11 => ?_)
  · refine g_sub (lv2 := [(1, .int vq1)]) [1] rfl ?_
    cases h10
    have h9 := h5 vq1 rfl
    cases h9
    exact KX8
  · refine g_iload_n hX d_M_missesOf_12 1 rfl ?_
    refine g_aload_n hX d_M_missesOf_13 0 rfl ?_
    refine g_aload_n hX d_M_missesOf_14 0 rfl ?_
    refine g_getR hX iw_43 sh_43 rfl fl_M_13 d_M_missesOf_15 ?_
    refine g_iload_n hX d_M_missesOf_18 2 rfl ?_
    refine g_iaload hX iw_44 sh_44 d_M_missesOf_19 h11 (fun vq12 h13 => ?_)
    refine g_aload_n hX d_M_missesOf_20 0 rfl ?_
    refine g_callV hX [] [.int vq12, .ref (adr Y 43), .int vq1] mv_M_110 (c_M_all X.2.1 Y σ _ rfl) (by decide) iw_43 sh_43 rfl rfl rfl (Nat.le_of_ble_eq_true rfl) d_M_missesOf_21 (fun h14 => ?_)
    show Gd X Y 1 σ [(0, .ref (adr Y 43)), (1, .int vq1), (2, .int vq2)] 24 [.int (M_all σ), .int vq12, .ref (adr Y 43), .int vq1]
    refine g_iand hX d_M_missesOf_24 ?_
    obtain ⟨vq15, h16, h17⟩ := obind h13
    refine g_callV hX [.int (vq12 &&& (M_all σ))] [.int vq1] mv_M_229 (c_M_isHad X.2.1 Y (vq12 &&& (M_all σ)) σ _ h16) (by decide) iw_43 sh_43 rfl rfl rfl (Nat.le_of_ble_eq_true rfl) d_M_missesOf_25 (fun h18 => ?_)
    show Gd X Y 1 σ [(0, .ref (adr Y 43)), (1, .int vq1), (2, .int vq2)] 28 [.int vq15, .int vq1]
    obtain ⟨vq24, h19, h20⟩ := ltex h17
    have KJ20 : Gd X Y 1 σ [(0, .ref (adr Y 43)), (2, .int vq2)] 38 [.int vq24, .int vq1] := by
      refine g_ior hX d_M_missesOf_38 ?_
      refine g_istore_n hX (fun vq25 => [(1, .int vq25), (0, .ref (adr Y 43)), (2, .int vq2)]) d_M_missesOf_39 (by decide) (fun _ => rfl) h20 (fun vq25 h26 => ?_)
      refine g_iinc hX (fun vq27 => [(2, .int vq27), (1, .int vq25), (0, .ref (adr Y 43))]) d_M_missesOf_40 2 rfl rfl (by decide) (fun _ => rfl) h26 (fun vq27 h28 => ?_)
      refine g_goto hX 4 d_M_missesOf_43 (by decide) ?_
      refine g_sub (lv2 := [(0, .ref (adr Y 43)), (1, .int vq25), (2, .int vq27)]) [2, 1, 0] rfl ?_
      cases h28
      exact h4 (vq25, vq27) rfl
    refine g_if_eq hX 35 d_M_missesOf_28 (by decide) h19 (fun h22 => ?_) (fun h23 => ?_)
    · refine g_iconst hX 1 d_M_missesOf_35 (by decide) ?_
      refine g_iload_n hX d_M_missesOf_36 2 rfl ?_
      refine g_ishl hX d_M_missesOf_37 ?_
      refine g_sub (lv2 := [(0, .ref (adr Y 43)), (2, .int vq2)]) [0, 2] rfl ?_
      cases h22
      exact KJ20
    · refine g_iconst hX 0 d_M_missesOf_31 (by decide) ?_
      refine g_goto hX 38 d_M_missesOf_32 (by decide) ?_
      refine g_sub (lv2 := [(0, .ref (adr Y 43)), (2, .int vq2)]) [0, 2] rfl ?_
      cases h23
      exact KJ20
noncomputable def M_misses  (σ : Mem) : Option (Int32) := (M_isRow σ).bind (fun vq1 => ((if vq1 = 0 then some (-3) else (M_missesOf σ).bind (fun vq11 => some vq11) : Option (Int32))).bind (fun vq10 => some vq10))
set_option maxHeartbeats 4000000 in
set_option maxRecDepth 100000 in
theorem c_M_misses (l : Launch) (Y : Wx)   (σ : Mem) (o : Int32) (hf : M_misses σ = some o) : Ct l Y 1 y_M_misses b_M_misses 1 (some .int) 4 [.ref (adr Y 43)] σ (some (.int o)) σ := by
  unfold M_misses at hf
  refine ct_of (by decide) (Nat.le_of_ble_eq_true rfl) rfl (fun X hXl hX hR => ?_)
  subst hXl
  have hX : Fx X Y 1 b_M_misses 1 R_M 4 := hX
  refine g_aload_n hX d_M_misses_0 0 rfl ?_
  obtain ⟨vq1, h2, h3⟩ := obind hf
  refine g_callV hX [] [] mv_M_232 (c_M_isRow X.2.1 Y σ _ h2) (by decide) iw_43 sh_43 rfl rfl rfl (Nat.le_of_ble_eq_true rfl) d_M_misses_1 (fun h4 => ?_)
  show Gd X Y 1 σ [(0, .ref (adr Y 43))] 4 [.int vq1]
  obtain ⟨vq10, h5, h6⟩ := obind h3
  have KJ6 : Gd X Y 1 σ [] 16 [.int vq10] := by
    cases h6
    exact g_ireturn hX hR d_M_misses_16
  refine g_if_eq hX 14 d_M_misses_4 (by decide) h5 (fun h8 => ?_) (fun h9 => ?_)
  · refine g_bipush hX (-3) d_M_misses_14 (by decide) ?_
    refine g_sub (lv2 := []) [] rfl ?_
    cases h8
    exact KJ6
  · refine g_aload_n hX d_M_misses_7 0 rfl ?_
    obtain ⟨vq11, h12, h13⟩ := obind h9
    refine g_callV hX [] [] mv_M_236 (c_M_missesOf X.2.1 Y σ _ h12) (by decide) iw_43 sh_43 rfl rfl rfl (Nat.le_of_ble_eq_true rfl) d_M_misses_8 (fun h14 => ?_)
    show Gd X Y 1 σ [(0, .ref (adr Y 43))] 11 [.int vq11]
    refine g_goto hX 16 d_M_misses_11 (by decide) ?_
    refine g_sub (lv2 := []) [] rfl ?_
    cases h13
    exact KJ6
noncomputable def M_placeOf_b1 (x1 : Int32) (σ : Mem) (vq1 : Int32) : Option ((Int32) ⊕ (Int32)) := (rd σ 60 vq1).bind (fun vq9 => if (M_isIn x1 (vq9 - 97)) = 0 then lt (vq1 + 1) (fun vq14 => some (.inl vq14)) else some (.inr vq1))
noncomputable def M_placeOf (x1 : Int32) (σ : Mem) : Option (Int32) := (lp (fun s => M_placeOf_b1 x1 σ s) fuel 0).bind (fun vq2 => some vq2)
set_option maxHeartbeats 4000000 in
set_option maxRecDepth 100000 in
theorem c_M_placeOf (l : Launch) (Y : Wx) (x1 : Int32)  (σ : Mem) (o : Int32) (hf : M_placeOf x1 σ = some o) : Ct l Y 1 y_M_placeOf b_M_placeOf 3 (some .int) 1 [.ref (adr Y 43), .int x1] σ (some (.int o)) σ := by
  unfold M_placeOf at hf
  refine ct_of (by decide) (Nat.le_of_ble_eq_true rfl) rfl (fun X hXl hX hR => ?_)
  subst hXl
  have hX : Fx X Y 1 b_M_placeOf 3 R_M 1 := hX
  refine g_iconst hX 0 d_M_placeOf_0 (by decide) ?_
  refine g_istore_nV hX [(2, .int 0), (0, .ref (adr Y 43)), (1, .int x1)] d_M_placeOf_1 (by decide) rfl ?_
  obtain ⟨vq2, h6, h7⟩ := obind hf
  have KX7 : Gd X Y 1 σ [(2, .int vq2)] 24 [] := by
    refine g_iload_n hX d_M_placeOf_24 0 rfl ?_
    cases h7
    exact g_ireturn hX hR d_M_placeOf_25
  refine g_sub (lv2 := [(0, .ref (adr Y 43)), (1, .int x1), (2, .int 0)]) [1, 2, 0] rfl ?_
  refine g_loop (fun s => M_placeOf_b1 x1 σ s) (fun s => Gd X Y 1 σ [(0, .ref (adr Y 43)), (1, .int x1), (2, .int s)] 2 []) vq2 ?_ fuel 0 h6
  intro vq1 y5 h5 h3 h4
  have h5 : M_placeOf_b1 x1 σ vq1 = some y5 := h5
  unfold M_placeOf_b1 at h5
  show Gd X Y 1 σ [(0, .ref (adr Y 43)), (1, .int x1), (2, .int vq1)] 2 []
  refine g_iload_n hX d_M_placeOf_2 1 rfl ?_
  refine g_aload_n hX d_M_placeOf_3 0 rfl ?_
  refine g_getR hX iw_43 sh_43 rfl fl_M_62 d_M_placeOf_4 ?_
  refine g_iload_n hX d_M_placeOf_7 2 rfl ?_
  refine g_iaload hX iw_60 sh_60 d_M_placeOf_8 h5 (fun vq9 h10 => ?_)
  refine g_bipush hX 97 d_M_placeOf_9 (by decide) ?_
  refine g_isub hX d_M_placeOf_11 ?_
  refine g_callS hX [.int x1, .int (vq9 - 97)] [] mv_M_81 (c_M_isIn X.2.1 Y x1 (vq9 - 97) σ _ rfl) (by decide) rfl rfl (Nat.le_of_ble_eq_true rfl) d_M_placeOf_12 (fun h11 => ?_)
  show Gd X Y 1 σ [(0, .ref (adr Y 43)), (1, .int x1), (2, .int vq1)] 15 [.int (M_isIn x1 (vq9 - 97))]
  refine g_if_ne hX 24 d_M_placeOf_15 (by decide) h10 (fun h12 => ?_) (fun h13 => ?_)
  · refine g_sub (lv2 := [(2, .int vq1)]) [2] rfl ?_
    cases h12
    have h8 := h4 vq1 rfl
    cases h8
    exact KX7
  · refine g_iinc hX (fun vq14 => [(2, .int vq14), (0, .ref (adr Y 43)), (1, .int x1)]) d_M_placeOf_18 2 rfl rfl (by decide) (fun _ => rfl) h13 (fun vq14 h15 => ?_)
    refine g_goto hX 2 d_M_placeOf_21 (by decide) ?_
    refine g_sub (lv2 := [(0, .ref (adr Y 43)), (1, .int x1), (2, .int vq14)]) [1, 2, 0] rfl ?_
    cases h15
    exact h3 vq14 rfl
noncomputable def M_wayTold_b1 (σ : Mem) (vq1 : Int32) (vq3 : Int32) (vq21 : Int32) (vq31 : Int32) (vq32 : Int32) : Option ((Int32 × Int32) ⊕ (Int32)) := if vq1 ≤ vq32 then some (.inr vq31) else (rd σ 52 (vq3 + vq32)).bind (fun vq42 => (M_placeOf vq42 σ).bind (fun vq44 => (rd σ 52 (vq3 + vq21)).bind (fun vq48 => (M_placeOf vq48 σ).bind (fun vq50 => lt (if vq50 ≤ vq44 then 0 else 1 : Int32) (fun vq59 => lt (vq31 + vq59) (fun vq60 => lt (vq32 + 1) (fun vq62 => some (.inl (vq60, vq62)))))))))
noncomputable def M_wayTold_b2 (σ : Mem) (vq1 : Int32) (vq3 : Int32) (vq10 : Int32) (vq20 : Int32) (vq21 : Int32) : Option ((Int32 × Int32) ⊕ (Int32)) := if vq1 ≤ vq21 then some (.inr vq20) else (lp (fun s => M_wayTold_b1 σ vq1 vq3 vq21 s.1 s.2) fuel (0, 0)).bind (fun vq33 => lt (if vq33 = vq10 then vq21 else vq20 : Int32) (fun vq69 => lt (vq21 + 1) (fun vq70 => some (.inl (vq69, vq70)))))
noncomputable def M_wayTold_b3 (σ : Mem) (vq3 : Int32) (vq22 : Int32) (vq72 : Int32) (vq73 : Int32) : Option ((Int32 × Int32) ⊕ (Int32)) := if vq22 ≤ vq73 then some (.inr vq72) else (rd σ 52 (vq3 + vq73)).bind (fun vq83 => (M_placeOf vq83 σ).bind (fun vq85 => (rd σ 52 (vq3 + vq22)).bind (fun vq89 => (M_placeOf vq89 σ).bind (fun vq91 => lt (if vq85 ≤ vq91 then 0 else 1 : Int32) (fun vq100 => lt (vq72 + vq100) (fun vq101 => lt (vq73 + 1) (fun vq103 => some (.inl (vq101, vq103)))))))))
noncomputable def M_wayTold_b4 (σ : Mem) (vq1 : Int32) (vq3 : Int32) (vq9 : Int32) (vq10 : Int32) : Option ((Int32 × Int32) ⊕ (Int32)) := if vq1 ≤ vq10 then some (.inr vq9) else (lp (fun s => M_wayTold_b2 σ vq1 vq3 vq10 s.1 s.2) fuel (0, 0)).bind (fun vq22 => (lp (fun s => M_wayTold_b3 σ vq3 vq22 s.1 s.2) fuel (0, 0)).bind (fun vq74 => (M_factorial ((vq1 - 1) - vq10)).bind (fun vq105 => lt (vq9 + (vq74 * vq105)) (fun vq109 => lt (vq10 + 1) (fun vq111 => some (.inl (vq109, vq111)))))))
noncomputable def M_wayTold (x1 : Int32) (σ : Mem) : Option (Int32) := (rd σ 51 x1).bind (fun vq1 => lt (8 * x1) (fun vq3 => (rd σ 50 x1).bind (fun vq5 => if vq5 = 1 then (rd σ 52 vq3).bind (fun vq113 => (M_placeOf vq113 σ).bind (fun vq115 => (rd σ 52 ((vq3 + vq1) - 1)).bind (fun vq119 => (M_placeOf vq119 σ).bind (fun vq121 => lt (if vq121 ≤ vq115 then 1 else 0 : Int32) (fun vq130 => some vq130))))) else (lp (fun s => M_wayTold_b4 σ vq1 vq3 s.1 s.2) fuel (0, 0)).bind (fun vq11 => some vq11))))
set_option maxHeartbeats 4000000 in
set_option maxRecDepth 100000 in
theorem c_M_wayTold (l : Launch) (Y : Wx) (x1 : Int32)  (σ : Mem) (o : Int32) (hf : M_wayTold x1 σ = some o) : Ct l Y 1 y_M_wayTold b_M_wayTold 10 (some .int) 2 [.ref (adr Y 43), .int x1] σ (some (.int o)) σ := by
  unfold M_wayTold at hf
  refine ct_of (by decide) (Nat.le_of_ble_eq_true rfl) rfl (fun X hXl hX hR => ?_)
  subst hXl
  have hX : Fx X Y 1 b_M_wayTold 10 R_M 2 := hX
  refine g_aload_n hX d_M_wayTold_0 0 rfl ?_
  refine g_getR hX iw_43 sh_43 rfl fl_M_35 d_M_wayTold_1 ?_
  refine g_iload_n hX d_M_wayTold_4 1 rfl ?_
  refine g_iaload hX iw_51 sh_51 d_M_wayTold_5 hf (fun vq1 h2 => ?_)
  refine g_istore_nV hX [(2, .int vq1), (0, .ref (adr Y 43)), (1, .int x1)] d_M_wayTold_6 (by decide) rfl ?_
  refine g_bipush hX 8 d_M_wayTold_7 (by decide) ?_
  refine g_iload_n hX d_M_wayTold_9 2 rfl ?_
  refine g_imul hX d_M_wayTold_10 ?_
  refine g_istore_n hX (fun vq3 => [(3, .int vq3), (2, .int vq1), (0, .ref (adr Y 43)), (1, .int x1)]) d_M_wayTold_11 (by decide) (fun _ => rfl) h2 (fun vq3 h4 => ?_)
  refine g_aload_n hX d_M_wayTold_12 2 rfl ?_
  refine g_getR hX iw_43 sh_43 rfl fl_M_32 d_M_wayTold_13 ?_
  refine g_iload_n hX d_M_wayTold_16 3 rfl ?_
  refine g_iaload hX iw_50 sh_50 d_M_wayTold_17 h4 (fun vq5 h6 => ?_)
  refine g_iconst hX 1 d_M_wayTold_18 (by decide) ?_
  refine g_icmp_ne hX 55 d_M_wayTold_19 (by decide) h6 (fun h7 => ?_) (fun h8 => ?_)
  · refine g_iconst hX 0 d_M_wayTold_55 (by decide) ?_
    refine g_istoreV hX [(4, .int 0), (3, .int vq3), (2, .int vq1), (0, .ref (adr Y 43)), (1, .int x1)] d_M_wayTold_56 (by decide) rfl ?_
    refine g_iconst hX 0 d_M_wayTold_58 (by decide) ?_
    refine g_istoreV hX [(5, .int 0), (4, .int 0), (3, .int vq3), (2, .int vq1), (0, .ref (adr Y 43)), (1, .int x1)] d_M_wayTold_59 (by decide) rfl ?_
    obtain ⟨vq11, h15, h16⟩ := obind h7
    have KX16 : Gd X Y 1 σ [(4, .int vq11)] 239 [] := by
      refine g_iload hX d_M_wayTold_239 0 rfl ?_
      cases h16
      exact g_ireturn hX hR d_M_wayTold_241
    refine g_sub (lv2 := [(0, .ref (adr Y 43)), (2, .int vq1), (3, .int vq3), (4, .int 0), (5, .int 0)]) [4, 3, 2, 1, 0] rfl ?_
    refine g_loop (fun s => M_wayTold_b4 σ vq1 vq3 s.1 s.2) (fun s => Gd X Y 1 σ [(0, .ref (adr Y 43)), (2, .int vq1), (3, .int vq3), (4, .int s.1), (5, .int s.2)] 61 []) vq11 ?_ fuel (0, 0) h15
    intro s y14 h14 h12 h13
    obtain ⟨vq9, vq10⟩ := s
    have h14 : M_wayTold_b4 σ vq1 vq3 vq9 vq10 = some y14 := h14
    unfold M_wayTold_b4 at h14
    show Gd X Y 1 σ [(0, .ref (adr Y 43)), (2, .int vq1), (3, .int vq3), (4, .int vq9), (5, .int vq10)] 61 []
    refine g_iload hX d_M_wayTold_61 4 rfl ?_
    refine g_iload_n hX d_M_wayTold_63 1 rfl ?_
    refine g_icmp_ge hX 239 d_M_wayTold_64 (by decide) h14 (fun h18 => ?_) (fun h19 => ?_)
    · refine g_sub (lv2 := [(4, .int vq9)]) [3] rfl ?_
      cases h18
      have h17 := h13 vq9 rfl
      cases h17
      exact KX16
    · refine g_iconst hX 0 d_M_wayTold_67 (by decide) ?_
      refine g_istoreV hX [(6, .int 0), (0, .ref (adr Y 43)), (2, .int vq1), (3, .int vq3), (4, .int vq9), (5, .int vq10)] d_M_wayTold_68 (by decide) rfl ?_
      refine g_iconst hX 0 d_M_wayTold_70 (by decide) ?_
      refine g_istoreV hX [(7, .int 0), (6, .int 0), (0, .ref (adr Y 43)), (2, .int vq1), (3, .int vq3), (4, .int vq9), (5, .int vq10)] d_M_wayTold_71 (by decide) rfl ?_
      obtain ⟨vq22, h26, h27⟩ := obind h19
      have KX27 : Gd X Y 1 σ [(0, .ref (adr Y 43)), (2, .int vq1), (3, .int vq3), (4, .int vq9), (5, .int vq10), (6, .int vq22)] 158 [] := by
        refine g_iconst hX 0 d_M_wayTold_158 (by decide) ?_
        refine g_istoreV hX [(7, .int 0), (0, .ref (adr Y 43)), (2, .int vq1), (3, .int vq3), (4, .int vq9), (5, .int vq10), (6, .int vq22)] d_M_wayTold_159 (by decide) rfl ?_
        refine g_iconst hX 0 d_M_wayTold_161 (by decide) ?_
        refine g_istoreV hX [(8, .int 0), (7, .int 0), (0, .ref (adr Y 43)), (2, .int vq1), (3, .int vq3), (4, .int vq9), (5, .int vq10), (6, .int vq22)] d_M_wayTold_162 (by decide) rfl ?_
        obtain ⟨vq74, h78, h79⟩ := obind h27
        have KX79 : Gd X Y 1 σ [(0, .ref (adr Y 43)), (2, .int vq1), (3, .int vq3), (4, .int vq9), (5, .int vq10), (7, .int vq74)] 216 [] := by
          refine g_iload hX d_M_wayTold_216 3 rfl ?_
          refine g_iload hX d_M_wayTold_218 5 rfl ?_
          refine g_iload_n hX d_M_wayTold_220 1 rfl ?_
          refine g_iconst hX 1 d_M_wayTold_221 (by decide) ?_
          refine g_isub hX d_M_wayTold_222 ?_
          refine g_iload hX d_M_wayTold_223 4 rfl ?_
          refine g_isub hX d_M_wayTold_225 ?_
          obtain ⟨vq105, h106, h107⟩ := obind h79
          refine g_callS hX [.int ((vq1 - 1) - vq10)] [.int vq74, .int vq9] mv_M_180 (c_M_factorial X.2.1 Y ((vq1 - 1) - vq10) σ _ h106) (by decide) rfl rfl (Nat.le_of_ble_eq_true rfl) d_M_wayTold_226 (fun h108 => ?_)
          show Gd X Y 1 σ [(0, .ref (adr Y 43)), (2, .int vq1), (3, .int vq3), (4, .int vq9), (5, .int vq10), (7, .int vq74)] 229 [.int vq105, .int vq74, .int vq9]
          refine g_imul hX d_M_wayTold_229 ?_
          refine g_iadd hX d_M_wayTold_230 ?_
          refine g_istore hX (fun vq109 => [(4, .int vq109), (0, .ref (adr Y 43)), (2, .int vq1), (3, .int vq3), (5, .int vq10), (7, .int vq74)]) d_M_wayTold_231 (by decide) (fun _ => rfl) h107 (fun vq109 h110 => ?_)
          refine g_iinc hX (fun vq111 => [(5, .int vq111), (4, .int vq109), (0, .ref (adr Y 43)), (2, .int vq1), (3, .int vq3), (7, .int vq74)]) d_M_wayTold_233 4 rfl rfl (by decide) (fun _ => rfl) h110 (fun vq111 h112 => ?_)
          refine g_goto hX 61 d_M_wayTold_236 (by decide) ?_
          refine g_sub (lv2 := [(0, .ref (adr Y 43)), (2, .int vq1), (3, .int vq3), (4, .int vq109), (5, .int vq111)]) [2, 3, 4, 1, 0] rfl ?_
          cases h112
          exact h12 (vq109, vq111) rfl
        refine g_sub (lv2 := [(0, .ref (adr Y 43)), (2, .int vq1), (3, .int vq3), (4, .int vq9), (5, .int vq10), (6, .int vq22), (7, .int 0), (8, .int 0)]) [2, 3, 4, 5, 6, 7, 1, 0] rfl ?_
        refine g_loop (fun s => M_wayTold_b3 σ vq3 vq22 s.1 s.2) (fun s => Gd X Y 1 σ [(0, .ref (adr Y 43)), (2, .int vq1), (3, .int vq3), (4, .int vq9), (5, .int vq10), (6, .int vq22), (7, .int s.1), (8, .int s.2)] 164 []) vq74 ?_ fuel (0, 0) h78
        intro s y77 h77 h75 h76
        obtain ⟨vq72, vq73⟩ := s
        have h77 : M_wayTold_b3 σ vq3 vq22 vq72 vq73 = some y77 := h77
        unfold M_wayTold_b3 at h77
        show Gd X Y 1 σ [(0, .ref (adr Y 43)), (2, .int vq1), (3, .int vq3), (4, .int vq9), (5, .int vq10), (6, .int vq22), (7, .int vq72), (8, .int vq73)] 164 []
        refine g_iload hX d_M_wayTold_164 7 rfl ?_
        refine g_iload hX d_M_wayTold_166 5 rfl ?_
        refine g_icmp_ge hX 216 d_M_wayTold_168 (by decide) h77 (fun h81 => ?_) (fun h82 => ?_)
        · refine g_sub (lv2 := [(0, .ref (adr Y 43)), (2, .int vq1), (3, .int vq3), (4, .int vq9), (5, .int vq10), (7, .int vq72)]) [0, 1, 2, 3, 4, 6] rfl ?_
          cases h81
          have h80 := h76 vq72 rfl
          cases h80
          exact KX79
        · refine g_iload hX d_M_wayTold_171 6 rfl ?_
          refine g_aload_n hX d_M_wayTold_173 0 rfl ?_
          refine g_aload_n hX d_M_wayTold_174 0 rfl ?_
          refine g_getR hX iw_43 sh_43 rfl fl_M_38 d_M_wayTold_175 ?_
          refine g_iload_n hX d_M_wayTold_178 2 rfl ?_
          refine g_iload hX d_M_wayTold_179 7 rfl ?_
          refine g_iadd hX d_M_wayTold_181 ?_
          refine g_iaload hX iw_52 sh_52 d_M_wayTold_182 h82 (fun vq83 h84 => ?_)
          obtain ⟨vq85, h86, h87⟩ := obind h84
          refine g_callV hX [.int vq83] [.int vq72] mv_M_239 (c_M_placeOf X.2.1 Y vq83 σ _ h86) (by decide) iw_43 sh_43 rfl rfl rfl (Nat.le_of_ble_eq_true rfl) d_M_wayTold_183 (fun h88 => ?_)
          show Gd X Y 1 σ [(0, .ref (adr Y 43)), (2, .int vq1), (3, .int vq3), (4, .int vq9), (5, .int vq10), (6, .int vq22), (7, .int vq72), (8, .int vq73)] 186 [.int vq85, .int vq72]
          refine g_aload_n hX d_M_wayTold_186 0 rfl ?_
          refine g_aload_n hX d_M_wayTold_187 0 rfl ?_
          refine g_getR hX iw_43 sh_43 rfl fl_M_38 d_M_wayTold_188 ?_
          refine g_iload_n hX d_M_wayTold_191 2 rfl ?_
          refine g_iload hX d_M_wayTold_192 5 rfl ?_
          refine g_iadd hX d_M_wayTold_194 ?_
          refine g_iaload hX iw_52 sh_52 d_M_wayTold_195 h87 (fun vq89 h90 => ?_)
          obtain ⟨vq91, h92, h93⟩ := obind h90
          refine g_callV hX [.int vq89] [.int vq85, .int vq72] mv_M_239 (c_M_placeOf X.2.1 Y vq89 σ _ h92) (by decide) iw_43 sh_43 rfl rfl rfl (Nat.le_of_ble_eq_true rfl) d_M_wayTold_196 (fun h94 => ?_)
          show Gd X Y 1 σ [(0, .ref (adr Y 43)), (2, .int vq1), (3, .int vq3), (4, .int vq9), (5, .int vq10), (6, .int vq22), (7, .int vq72), (8, .int vq73)] 199 [.int vq91, .int vq85, .int vq72]
          obtain ⟨vq100, h95, h96⟩ := ltex h93
          have KJ96 : okR (some .boolean) (some (.int vq100)) → Gd X Y 1 σ [(0, .ref (adr Y 43)), (2, .int vq1), (3, .int vq3), (4, .int vq9), (5, .int vq10), (6, .int vq22), (8, .int vq73)] 207 [.int vq100, .int vq72] := by
            intro hbvq100
            refine g_iadd hX d_M_wayTold_207 ?_
            refine g_istore hX (fun vq101 => [(7, .int vq101), (0, .ref (adr Y 43)), (2, .int vq1), (3, .int vq3), (4, .int vq9), (5, .int vq10), (6, .int vq22), (8, .int vq73)]) d_M_wayTold_208 (by decide) (fun _ => rfl) h96 (fun vq101 h102 => ?_)
            refine g_iinc hX (fun vq103 => [(8, .int vq103), (7, .int vq101), (0, .ref (adr Y 43)), (2, .int vq1), (3, .int vq3), (4, .int vq9), (5, .int vq10), (6, .int vq22)]) d_M_wayTold_210 7 rfl rfl (by decide) (fun _ => rfl) h102 (fun vq103 h104 => ?_)
            refine g_goto hX 164 d_M_wayTold_213 (by decide) ?_
            refine g_sub (lv2 := [(0, .ref (adr Y 43)), (2, .int vq1), (3, .int vq3), (4, .int vq9), (5, .int vq10), (6, .int vq22), (7, .int vq101), (8, .int vq103)]) [2, 3, 4, 5, 6, 7, 1, 0] rfl ?_
            cases h104
            exact h75 (vq101, vq103) rfl
          refine g_icmp_le hX 206 d_M_wayTold_199 (by decide) h95 (fun h98 => ?_) (fun h99 => ?_)
          · refine g_iconst hX 0 d_M_wayTold_206 (by decide) ?_
            refine g_sub (lv2 := [(0, .ref (adr Y 43)), (2, .int vq1), (3, .int vq3), (4, .int vq9), (5, .int vq10), (6, .int vq22), (8, .int vq73)]) [0, 1, 2, 3, 4, 5, 7] rfl ?_
            cases h98
            exact KJ96 okB0
          · refine g_iconst hX 1 d_M_wayTold_202 (by decide) ?_
            refine g_goto hX 207 d_M_wayTold_203 (by decide) ?_
            refine g_sub (lv2 := [(0, .ref (adr Y 43)), (2, .int vq1), (3, .int vq3), (4, .int vq9), (5, .int vq10), (6, .int vq22), (8, .int vq73)]) [0, 1, 2, 3, 4, 5, 7] rfl ?_
            cases h99
            exact KJ96 okB1
      refine g_sub (lv2 := [(0, .ref (adr Y 43)), (2, .int vq1), (3, .int vq3), (4, .int vq9), (5, .int vq10), (6, .int 0), (7, .int 0)]) [2, 3, 4, 5, 6, 1, 0] rfl ?_
      refine g_loop (fun s => M_wayTold_b2 σ vq1 vq3 vq10 s.1 s.2) (fun s => Gd X Y 1 σ [(0, .ref (adr Y 43)), (2, .int vq1), (3, .int vq3), (4, .int vq9), (5, .int vq10), (6, .int s.1), (7, .int s.2)] 73 []) vq22 ?_ fuel (0, 0) h26
      intro s y25 h25 h23 h24
      obtain ⟨vq20, vq21⟩ := s
      have h25 : M_wayTold_b2 σ vq1 vq3 vq10 vq20 vq21 = some y25 := h25
      unfold M_wayTold_b2 at h25
      show Gd X Y 1 σ [(0, .ref (adr Y 43)), (2, .int vq1), (3, .int vq3), (4, .int vq9), (5, .int vq10), (6, .int vq20), (7, .int vq21)] 73 []
      refine g_iload hX d_M_wayTold_73 6 rfl ?_
      refine g_iload_n hX d_M_wayTold_75 1 rfl ?_
      refine g_icmp_ge hX 158 d_M_wayTold_76 (by decide) h25 (fun h29 => ?_) (fun h30 => ?_)
      · refine g_sub (lv2 := [(0, .ref (adr Y 43)), (2, .int vq1), (3, .int vq3), (4, .int vq9), (5, .int vq10), (6, .int vq20)]) [0, 1, 2, 3, 4, 5] rfl ?_
        cases h29
        have h28 := h24 vq20 rfl
        cases h28
        exact KX27
      · refine g_iconst hX 0 d_M_wayTold_79 (by decide) ?_
        refine g_istoreV hX [(8, .int 0), (0, .ref (adr Y 43)), (2, .int vq1), (3, .int vq3), (4, .int vq9), (5, .int vq10), (6, .int vq20), (7, .int vq21)] d_M_wayTold_80 (by decide) rfl ?_
        refine g_iconst hX 0 d_M_wayTold_82 (by decide) ?_
        refine g_istoreV hX [(9, .int 0), (8, .int 0), (0, .ref (adr Y 43)), (2, .int vq1), (3, .int vq3), (4, .int vq9), (5, .int vq10), (6, .int vq20), (7, .int vq21)] d_M_wayTold_83 (by decide) rfl ?_
        obtain ⟨vq33, h37, h38⟩ := obind h30
        have KX38 : Gd X Y 1 σ [(0, .ref (adr Y 43)), (2, .int vq1), (3, .int vq3), (4, .int vq9), (5, .int vq10), (6, .int vq20), (7, .int vq21), (8, .int vq33)] 136 [] := by
          refine g_iload hX d_M_wayTold_136 7 rfl ?_
          refine g_iload hX d_M_wayTold_138 4 rfl ?_
          obtain ⟨vq69, h64, h65⟩ := ltex h38
          have KJ65 : Gd X Y 1 σ [(0, .ref (adr Y 43)), (2, .int vq1), (3, .int vq3), (4, .int vq9), (5, .int vq10), (7, .int vq21)] 150 [.int vq69] := by
            refine g_istoreV hX [(6, .int vq69), (0, .ref (adr Y 43)), (2, .int vq1), (3, .int vq3), (4, .int vq9), (5, .int vq10), (7, .int vq21)] d_M_wayTold_150 (by decide) rfl ?_
            refine g_iinc hX (fun vq70 => [(7, .int vq70), (6, .int vq69), (0, .ref (adr Y 43)), (2, .int vq1), (3, .int vq3), (4, .int vq9), (5, .int vq10)]) d_M_wayTold_152 6 rfl rfl (by decide) (fun _ => rfl) h65 (fun vq70 h71 => ?_)
            refine g_goto hX 73 d_M_wayTold_155 (by decide) ?_
            refine g_sub (lv2 := [(0, .ref (adr Y 43)), (2, .int vq1), (3, .int vq3), (4, .int vq9), (5, .int vq10), (6, .int vq69), (7, .int vq70)]) [2, 3, 4, 5, 6, 1, 0] rfl ?_
            cases h71
            exact h23 (vq69, vq70) rfl
          refine g_icmp_ne hX 148 d_M_wayTold_140 (by decide) h64 (fun h67 => ?_) (fun h68 => ?_)
          · refine g_iload hX d_M_wayTold_148 5 rfl ?_
            refine g_sub (lv2 := [(0, .ref (adr Y 43)), (2, .int vq1), (3, .int vq3), (4, .int vq9), (5, .int vq10), (7, .int vq21)]) [0, 1, 2, 3, 4, 6] rfl ?_
            cases h67
            exact KJ65
          · refine g_iload hX d_M_wayTold_143 6 rfl ?_
            refine g_goto hX 150 d_M_wayTold_145 (by decide) ?_
            refine g_sub (lv2 := [(0, .ref (adr Y 43)), (2, .int vq1), (3, .int vq3), (4, .int vq9), (5, .int vq10), (7, .int vq21)]) [0, 1, 2, 3, 4, 6] rfl ?_
            cases h68
            exact KJ65
        refine g_sub (lv2 := [(0, .ref (adr Y 43)), (2, .int vq1), (3, .int vq3), (4, .int vq9), (5, .int vq10), (6, .int vq20), (7, .int vq21), (8, .int 0), (9, .int 0)]) [2, 3, 4, 5, 6, 7, 8, 1, 0] rfl ?_
        refine g_loop (fun s => M_wayTold_b1 σ vq1 vq3 vq21 s.1 s.2) (fun s => Gd X Y 1 σ [(0, .ref (adr Y 43)), (2, .int vq1), (3, .int vq3), (4, .int vq9), (5, .int vq10), (6, .int vq20), (7, .int vq21), (8, .int s.1), (9, .int s.2)] 85 []) vq33 ?_ fuel (0, 0) h37
        intro s y36 h36 h34 h35
        obtain ⟨vq31, vq32⟩ := s
        have h36 : M_wayTold_b1 σ vq1 vq3 vq21 vq31 vq32 = some y36 := h36
        unfold M_wayTold_b1 at h36
        show Gd X Y 1 σ [(0, .ref (adr Y 43)), (2, .int vq1), (3, .int vq3), (4, .int vq9), (5, .int vq10), (6, .int vq20), (7, .int vq21), (8, .int vq31), (9, .int vq32)] 85 []
        refine g_iload hX d_M_wayTold_85 8 rfl ?_
        refine g_iload_n hX d_M_wayTold_87 1 rfl ?_
        refine g_icmp_ge hX 136 d_M_wayTold_88 (by decide) h36 (fun h40 => ?_) (fun h41 => ?_)
        · refine g_sub (lv2 := [(0, .ref (adr Y 43)), (2, .int vq1), (3, .int vq3), (4, .int vq9), (5, .int vq10), (6, .int vq20), (7, .int vq21), (8, .int vq31)]) [0, 1, 2, 3, 4, 5, 6, 7] rfl ?_
          cases h40
          have h39 := h35 vq31 rfl
          cases h39
          exact KX38
        · refine g_iload hX d_M_wayTold_91 7 rfl ?_
          refine g_aload_n hX d_M_wayTold_93 0 rfl ?_
          refine g_aload_n hX d_M_wayTold_94 0 rfl ?_
          refine g_getR hX iw_43 sh_43 rfl fl_M_38 d_M_wayTold_95 ?_
          refine g_iload_n hX d_M_wayTold_98 2 rfl ?_
          refine g_iload hX d_M_wayTold_99 8 rfl ?_
          refine g_iadd hX d_M_wayTold_101 ?_
          refine g_iaload hX iw_52 sh_52 d_M_wayTold_102 h41 (fun vq42 h43 => ?_)
          obtain ⟨vq44, h45, h46⟩ := obind h43
          refine g_callV hX [.int vq42] [.int vq31] mv_M_239 (c_M_placeOf X.2.1 Y vq42 σ _ h45) (by decide) iw_43 sh_43 rfl rfl rfl (Nat.le_of_ble_eq_true rfl) d_M_wayTold_103 (fun h47 => ?_)
          show Gd X Y 1 σ [(0, .ref (adr Y 43)), (2, .int vq1), (3, .int vq3), (4, .int vq9), (5, .int vq10), (6, .int vq20), (7, .int vq21), (8, .int vq31), (9, .int vq32)] 106 [.int vq44, .int vq31]
          refine g_aload_n hX d_M_wayTold_106 0 rfl ?_
          refine g_aload_n hX d_M_wayTold_107 0 rfl ?_
          refine g_getR hX iw_43 sh_43 rfl fl_M_38 d_M_wayTold_108 ?_
          refine g_iload_n hX d_M_wayTold_111 2 rfl ?_
          refine g_iload hX d_M_wayTold_112 6 rfl ?_
          refine g_iadd hX d_M_wayTold_114 ?_
          refine g_iaload hX iw_52 sh_52 d_M_wayTold_115 h46 (fun vq48 h49 => ?_)
          obtain ⟨vq50, h51, h52⟩ := obind h49
          refine g_callV hX [.int vq48] [.int vq44, .int vq31] mv_M_239 (c_M_placeOf X.2.1 Y vq48 σ _ h51) (by decide) iw_43 sh_43 rfl rfl rfl (Nat.le_of_ble_eq_true rfl) d_M_wayTold_116 (fun h53 => ?_)
          show Gd X Y 1 σ [(0, .ref (adr Y 43)), (2, .int vq1), (3, .int vq3), (4, .int vq9), (5, .int vq10), (6, .int vq20), (7, .int vq21), (8, .int vq31), (9, .int vq32)] 119 [.int vq50, .int vq44, .int vq31]
          obtain ⟨vq59, h54, h55⟩ := ltex h52
          have KJ55 : okR (some .boolean) (some (.int vq59)) → Gd X Y 1 σ [(0, .ref (adr Y 43)), (2, .int vq1), (3, .int vq3), (4, .int vq9), (5, .int vq10), (6, .int vq20), (7, .int vq21), (9, .int vq32)] 127 [.int vq59, .int vq31] := by
            intro hbvq59
            refine g_iadd hX d_M_wayTold_127 ?_
            refine g_istore hX (fun vq60 => [(8, .int vq60), (0, .ref (adr Y 43)), (2, .int vq1), (3, .int vq3), (4, .int vq9), (5, .int vq10), (6, .int vq20), (7, .int vq21), (9, .int vq32)]) d_M_wayTold_128 (by decide) (fun _ => rfl) h55 (fun vq60 h61 => ?_)
            refine g_iinc hX (fun vq62 => [(9, .int vq62), (8, .int vq60), (0, .ref (adr Y 43)), (2, .int vq1), (3, .int vq3), (4, .int vq9), (5, .int vq10), (6, .int vq20), (7, .int vq21)]) d_M_wayTold_130 8 rfl rfl (by decide) (fun _ => rfl) h61 (fun vq62 h63 => ?_)
            refine g_goto hX 85 d_M_wayTold_133 (by decide) ?_
            refine g_sub (lv2 := [(0, .ref (adr Y 43)), (2, .int vq1), (3, .int vq3), (4, .int vq9), (5, .int vq10), (6, .int vq20), (7, .int vq21), (8, .int vq60), (9, .int vq62)]) [2, 3, 4, 5, 6, 7, 8, 1, 0] rfl ?_
            cases h63
            exact h34 (vq60, vq62) rfl
          refine g_icmp_ge hX 126 d_M_wayTold_119 (by decide) h54 (fun h57 => ?_) (fun h58 => ?_)
          · refine g_iconst hX 0 d_M_wayTold_126 (by decide) ?_
            refine g_sub (lv2 := [(0, .ref (adr Y 43)), (2, .int vq1), (3, .int vq3), (4, .int vq9), (5, .int vq10), (6, .int vq20), (7, .int vq21), (9, .int vq32)]) [0, 1, 2, 3, 4, 5, 6, 8] rfl ?_
            cases h57
            exact KJ55 okB0
          · refine g_iconst hX 1 d_M_wayTold_122 (by decide) ?_
            refine g_goto hX 127 d_M_wayTold_123 (by decide) ?_
            refine g_sub (lv2 := [(0, .ref (adr Y 43)), (2, .int vq1), (3, .int vq3), (4, .int vq9), (5, .int vq10), (6, .int vq20), (7, .int vq21), (9, .int vq32)]) [0, 1, 2, 3, 4, 5, 6, 8] rfl ?_
            cases h58
            exact KJ55 okB1
  · refine g_aload_n hX d_M_wayTold_22 2 rfl ?_
    refine g_aload_n hX d_M_wayTold_23 2 rfl ?_
    refine g_getR hX iw_43 sh_43 rfl fl_M_38 d_M_wayTold_24 ?_
    refine g_iload_n hX d_M_wayTold_27 0 rfl ?_
    refine g_iaload hX iw_52 sh_52 d_M_wayTold_28 h8 (fun vq113 h114 => ?_)
    obtain ⟨vq115, h116, h117⟩ := obind h114
    refine g_callV hX [.int vq113] [] mv_M_239 (c_M_placeOf X.2.1 Y vq113 σ _ h116) (by decide) iw_43 sh_43 rfl rfl rfl (Nat.le_of_ble_eq_true rfl) d_M_wayTold_29 (fun h118 => ?_)
    show Gd X Y 1 σ [(3, .int vq3), (2, .int vq1), (0, .ref (adr Y 43)), (1, .int x1)] 32 [.int vq115]
    refine g_aload_n hX d_M_wayTold_32 2 rfl ?_
    refine g_aload_n hX d_M_wayTold_33 2 rfl ?_
    refine g_getR hX iw_43 sh_43 rfl fl_M_38 d_M_wayTold_34 ?_
    refine g_iload_n hX d_M_wayTold_37 0 rfl ?_
    refine g_iload_n hX d_M_wayTold_38 1 rfl ?_
    refine g_iadd hX d_M_wayTold_39 ?_
    refine g_iconst hX 1 d_M_wayTold_40 (by decide) ?_
    refine g_isub hX d_M_wayTold_41 ?_
    refine g_iaload hX iw_52 sh_52 d_M_wayTold_42 h117 (fun vq119 h120 => ?_)
    obtain ⟨vq121, h122, h123⟩ := obind h120
    refine g_callV hX [.int vq119] [.int vq115] mv_M_239 (c_M_placeOf X.2.1 Y vq119 σ _ h122) (by decide) iw_43 sh_43 rfl rfl rfl (Nat.le_of_ble_eq_true rfl) d_M_wayTold_43 (fun h124 => ?_)
    show Gd X Y 1 σ [(3, .int vq3), (2, .int vq1), (0, .ref (adr Y 43)), (1, .int x1)] 46 [.int vq121, .int vq115]
    obtain ⟨vq130, h125, h126⟩ := ltex h123
    have KJ126 : okR (some .boolean) (some (.int vq130)) → Gd X Y 1 σ [] 54 [.int vq130] := by
      intro hbvq130
      cases h126
      exact g_ireturn hX hR d_M_wayTold_54
    refine g_icmp_ge hX 53 d_M_wayTold_46 (by decide) h125 (fun h128 => ?_) (fun h129 => ?_)
    · refine g_iconst hX 1 d_M_wayTold_53 (by decide) ?_
      refine g_sub (lv2 := []) [] rfl ?_
      cases h128
      exact KJ126 okB1
    · refine g_iconst hX 0 d_M_wayTold_49 (by decide) ?_
      refine g_goto hX 54 d_M_wayTold_50 (by decide) ?_
      refine g_sub (lv2 := []) [] rfl ?_
      cases h129
      exact KJ126 okB0
noncomputable def M_numberOf_b1 (σ12 : Mem) (vq16 : Int32) (vq17 : Int32) : Option ((Int32 × Int32) ⊕ (Int32)) := if (σ12 43 7) ≤ vq17 then some (.inr vq16) else (M_waysAt vq17 σ12).bind (fun vq27 => (M_wayTold vq17 σ12).bind (fun vq31 => lt ((vq16 * vq27) + vq31) (fun vq35 => lt (vq17 + 1) (fun vq37 => some (.inl (vq35, vq37))))))
noncomputable def M_numberOf  (σ : Mem) : Option (Int32 × Mem) := (M_missesOf σ).bind (fun vq1 => (M_takenNow σ).bind (fun q => lt q.1 (fun vq5 => lt q.2 (fun σ6 => if (vq1 &&& vq5) = 0 then (M_findsTree σ6).bind (fun σ12 => (lp (fun s => M_numberOf_b1 σ12 s.1 s.2) fuel (0, 0)).bind (fun vq18 => some (vq18, σ12))) else some ((-1), σ6)))))
set_option maxHeartbeats 4000000 in
set_option maxRecDepth 100000 in
theorem c_M_numberOf (l : Launch) (Y : Wx)   (σ : Mem) (o : Int32 × Mem) (hf : M_numberOf σ = some o) : Ct l Y 1 y_M_numberOf b_M_numberOf 3 (some .int) 7 [.ref (adr Y 43)] σ (some (.int o.1)) o.2 := by
  unfold M_numberOf at hf
  refine ct_of (by decide) (Nat.le_of_ble_eq_true rfl) rfl (fun X hXl hX hR => ?_)
  subst hXl
  have hX : Fx X Y 1 b_M_numberOf 3 R_M 7 := hX
  refine g_aload_n hX d_M_numberOf_0 0 rfl ?_
  obtain ⟨vq1, h2, h3⟩ := obind hf
  refine g_callV hX [] [] mv_M_236 (c_M_missesOf X.2.1 Y σ _ h2) (by decide) iw_43 sh_43 rfl rfl rfl (Nat.le_of_ble_eq_true rfl) d_M_numberOf_1 (fun h4 => ?_)
  show Gd X Y 1 σ [(0, .ref (adr Y 43))] 4 [.int vq1]
  refine g_aload_n hX d_M_numberOf_4 0 rfl ?_
  obtain ⟨⟨vq5, σ6⟩, h7, h8⟩ := obind h3
  have h8 := lt2 h8
  refine g_callV hX [] [.int vq1] mv_M_96 (c_M_takenNow X.2.1 Y σ _ h7) (by decide) iw_43 sh_43 rfl rfl rfl (Nat.le_of_ble_eq_true rfl) d_M_numberOf_5 (fun h9 => ?_)
  show Gd X Y 1 σ6 [(0, .ref (adr Y 43))] 8 [.int vq5, .int vq1]
  refine g_iand hX d_M_numberOf_8 ?_
  refine g_if_eq hX 14 d_M_numberOf_9 (by decide) h8 (fun h10 => ?_) (fun h11 => ?_)
  · refine g_aload_n hX d_M_numberOf_14 0 rfl ?_
    obtain ⟨σ12, h13, h14⟩ := obind h10
    refine g_callV hX [] [] mv_M_171 (c_M_findsTree X.2.1 Y σ6 _ h13) (by decide) iw_43 sh_43 rfl rfl rfl (Nat.le_of_ble_eq_true rfl) d_M_numberOf_15 (fun h15 => ?_)
    show Gd X Y 1 σ12 [(0, .ref (adr Y 43))] 18 []
    refine g_iconst hX 0 d_M_numberOf_18 (by decide) ?_
    refine g_istore_nV hX [(1, .int 0), (0, .ref (adr Y 43))] d_M_numberOf_19 (by decide) rfl ?_
    refine g_iconst hX 0 d_M_numberOf_20 (by decide) ?_
    refine g_istore_nV hX [(2, .int 0), (1, .int 0), (0, .ref (adr Y 43))] d_M_numberOf_21 (by decide) rfl ?_
    obtain ⟨vq18, h22, h23⟩ := obind h14
    have KX23 : Gd X Y 1 σ12 [(1, .int vq18)] 50 [] := by
      refine g_iload_n hX d_M_numberOf_50 0 rfl ?_
      cases h23
      exact g_ireturn hX hR d_M_numberOf_51
    refine g_sub (lv2 := [(0, .ref (adr Y 43)), (1, .int 0), (2, .int 0)]) [2, 1, 0] rfl ?_
    refine g_loop (fun s => M_numberOf_b1 σ12 s.1 s.2) (fun s => Gd X Y 1 σ12 [(0, .ref (adr Y 43)), (1, .int s.1), (2, .int s.2)] 22 []) vq18 ?_ fuel (0, 0) h22
    intro s y21 h21 h19 h20
    obtain ⟨vq16, vq17⟩ := s
    have h21 : M_numberOf_b1 σ12 vq16 vq17 = some y21 := h21
    unfold M_numberOf_b1 at h21
    show Gd X Y 1 σ12 [(0, .ref (adr Y 43)), (1, .int vq16), (2, .int vq17)] 22 []
    refine g_iload_n hX d_M_numberOf_22 2 rfl ?_
    refine g_aload_n hX d_M_numberOf_23 0 rfl ?_
    refine g_getI hX iw_43 sh_43 rfl fl_M_156.f d_M_numberOf_24 ?_
    refine g_icmp_ge hX 50 d_M_numberOf_27 (by decide) h21 (fun h25 => ?_) (fun h26 => ?_)
    · refine g_sub (lv2 := [(1, .int vq16)]) [1] rfl ?_
      cases h25
      have h24 := h20 vq16 rfl
      cases h24
      exact KX23
    · refine g_iload_n hX d_M_numberOf_30 1 rfl ?_
      refine g_aload_n hX d_M_numberOf_31 0 rfl ?_
      refine g_iload_n hX d_M_numberOf_32 2 rfl ?_
      obtain ⟨vq27, h28, h29⟩ := obind h26
      refine g_callV hX [.int vq17] [.int vq16] mv_M_183 (c_M_waysAt X.2.1 Y vq17 σ12 _ h28) (by decide) iw_43 sh_43 rfl rfl rfl (Nat.le_of_ble_eq_true rfl) d_M_numberOf_33 (fun h30 => ?_)
      show Gd X Y 1 σ12 [(0, .ref (adr Y 43)), (1, .int vq16), (2, .int vq17)] 36 [.int vq27, .int vq16]
      refine g_imul hX d_M_numberOf_36 ?_
      refine g_aload_n hX d_M_numberOf_37 0 rfl ?_
      refine g_iload_n hX d_M_numberOf_38 2 rfl ?_
      obtain ⟨vq31, h32, h33⟩ := obind h29
      refine g_callV hX [.int vq17] [.int (vq16 * vq27)] mv_M_242 (c_M_wayTold X.2.1 Y vq17 σ12 _ h32) (by decide) iw_43 sh_43 rfl rfl rfl (Nat.le_of_ble_eq_true rfl) d_M_numberOf_39 (fun h34 => ?_)
      show Gd X Y 1 σ12 [(0, .ref (adr Y 43)), (1, .int vq16), (2, .int vq17)] 42 [.int vq31, .int (vq16 * vq27)]
      refine g_iadd hX d_M_numberOf_42 ?_
      refine g_istore_n hX (fun vq35 => [(1, .int vq35), (0, .ref (adr Y 43)), (2, .int vq17)]) d_M_numberOf_43 (by decide) (fun _ => rfl) h33 (fun vq35 h36 => ?_)
      refine g_iinc hX (fun vq37 => [(2, .int vq37), (1, .int vq35), (0, .ref (adr Y 43))]) d_M_numberOf_44 2 rfl rfl (by decide) (fun _ => rfl) h36 (fun vq37 h38 => ?_)
      refine g_goto hX 22 d_M_numberOf_47 (by decide) ?_
      refine g_sub (lv2 := [(0, .ref (adr Y 43)), (1, .int vq35), (2, .int vq37)]) [2, 1, 0] rfl ?_
      cases h38
      exact h19 (vq35, vq37) rfl
  · refine g_iconst hX (-1) d_M_numberOf_12 (by decide) ?_
    cases h11
    exact g_ireturn hX hR d_M_numberOf_13
noncomputable def M_number  (σ : Mem) : Option (Int32 × Mem) := (M_isRow σ).bind (fun vq1 => ((if vq1 = 0 then some ((-3), σ) else (M_numberOf σ).bind (fun q => lt q.1 (fun vq12 => lt q.2 (fun σ13 => some (vq12, σ13)))) : Option (Int32 × Mem))).bind (fun q => lt q.1 (fun vq10 => lt q.2 (fun σ11 => some (vq10, σ11)))))
set_option maxHeartbeats 4000000 in
set_option maxRecDepth 100000 in
theorem c_M_number (l : Launch) (Y : Wx)   (σ : Mem) (o : Int32 × Mem) (hf : M_number σ = some o) : Ct l Y 1 y_M_number b_M_number 1 (some .int) 8 [.ref (adr Y 43)] σ (some (.int o.1)) o.2 := by
  unfold M_number at hf
  refine ct_of (by decide) (Nat.le_of_ble_eq_true rfl) rfl (fun X hXl hX hR => ?_)
  subst hXl
  have hX : Fx X Y 1 b_M_number 1 R_M 8 := hX
  refine g_aload_n hX d_M_number_0 0 rfl ?_
  obtain ⟨vq1, h2, h3⟩ := obind hf
  refine g_callV hX [] [] mv_M_232 (c_M_isRow X.2.1 Y σ _ h2) (by decide) iw_43 sh_43 rfl rfl rfl (Nat.le_of_ble_eq_true rfl) d_M_number_1 (fun h4 => ?_)
  show Gd X Y 1 σ [(0, .ref (adr Y 43))] 4 [.int vq1]
  obtain ⟨⟨vq10, σ11⟩, h5, h6⟩ := obind h3
  have h6 := lt2 h6
  have KJ6 : Gd X Y 1 σ11 [] 16 [.int vq10] := by
    cases h6
    exact g_ireturn hX hR d_M_number_16
  refine g_if_eq hX 14 d_M_number_4 (by decide) h5 (fun h8 => ?_) (fun h9 => ?_)
  · refine g_bipush hX (-3) d_M_number_14 (by decide) ?_
    refine g_sub (lv2 := []) [] rfl ?_
    cases h8
    exact KJ6
  · refine g_aload_n hX d_M_number_7 0 rfl ?_
    obtain ⟨⟨vq12, σ13⟩, h14, h15⟩ := obind h9
    have h15 := lt2 h15
    refine g_callV hX [] [] mv_M_245 (c_M_numberOf X.2.1 Y σ _ h14) (by decide) iw_43 sh_43 rfl rfl rfl (Nat.le_of_ble_eq_true rfl) d_M_number_8 (fun h16 => ?_)
    show Gd X Y 1 σ13 [(0, .ref (adr Y 43))] 11 [.int vq12]
    refine g_goto hX 16 d_M_number_11 (by decide) ?_
    refine g_sub (lv2 := []) [] rfl ?_
    cases h15
    exact KJ6
noncomputable def M_sheet_b1 (x1 : Int32) (vq22 : Int32) (σ23 : Mem) : Option ((Int32 × Mem) ⊕ (Mem)) := if 60 ≤ vq22 then some (.inr σ23) else (wr σ23 64 ((60 * x1) + vq22) 0).bind (fun σ33 => lt (vq22 + 1) (fun vq35 => some (.inl (vq35, σ33))))
noncomputable def M_sheet (x1 : Int32) (x2 : Int32) (x3 : Int32) (σ : Mem) : Option (Int32 × Mem) := lt (if (M_isSheet x1) = 0 then true else if (M_in x2 0 2) = 0 then true else if x3 ≤ 60 then false else true : Bool) (fun bq2 => if bq2 = true then some ((-2), σ) else if 0 ≤ x3 then (wr σ 61 x1 1).bind (fun σ16 => (wr σ16 62 x1 x2).bind (fun σ18 => (wr σ18 63 x1 x3).bind (fun σ20 => (lp (fun s => M_sheet_b1 x1 s.1 s.2) fuel (0, σ20)).bind (fun σ24 => some (x3, σ24))))) else lt (M_meets 5 σ) (fun q => lt q.1 (fun vq37 => lt q.2 (fun σ38 => some (vq37, σ38)))))
set_option maxHeartbeats 4000000 in
set_option maxRecDepth 100000 in
theorem c_M_sheet (l : Launch) (Y : Wx) (x1 : Int32) (x2 : Int32) (x3 : Int32)  (σ : Mem) (o : Int32 × Mem) (hf : M_sheet x1 x2 x3 σ = some o) : Ct l Y 1 y_M_sheet b_M_sheet 5 (some .int) 2 [.ref (adr Y 43), .int x1, .int x2, .int x3] σ (some (.int o.1)) o.2 := by
  unfold M_sheet at hf
  refine ct_of (by decide) (Nat.le_of_ble_eq_true rfl) rfl (fun X hXl hX hR => ?_)
  subst hXl
  have hX : Fx X Y 1 b_M_sheet 5 R_M 2 := hX
  refine g_iload_n hX d_M_sheet_0 1 rfl ?_
  refine g_callS hX [.int x1] [] mv_M_103 (c_M_isSheet X.2.1 Y x1 σ _ rfl) (by decide) rfl rfl (Nat.le_of_ble_eq_true rfl) d_M_sheet_1 (fun h1 => ?_)
  show Gd X Y 1 σ [(0, .ref (adr Y 43)), (1, .int x1), (2, .int x2), (3, .int x3)] 4 [.int (M_isSheet x1)]
  obtain ⟨bq2, h3, h4⟩ := ltex hf
  have Kbq2t : bq2 = true → Gd X Y 1 σ [(0, .ref (adr Y 43)), (1, .int x1), (2, .int x2), (3, .int x3)] 22 [] := by
    intro h42
    have h12 := (if_pos h42).symm.trans h4
    refine g_bipush hX (-2) d_M_sheet_22 (by decide) ?_
    cases h12
    exact g_ireturn hX hR d_M_sheet_24
  have Kbq2f : ¬ bq2 = true → Gd X Y 1 σ [(0, .ref (adr Y 43)), (1, .int x1), (2, .int x2), (3, .int x3)] 25 [] := by
    intro h42
    have h13 := (if_neg h42).symm.trans h4
    refine g_iload_n hX d_M_sheet_25 3 rfl ?_
    refine g_if_ge hX 35 d_M_sheet_26 (by decide) h13 (fun h14 => ?_) (fun h15 => ?_)
    · refine g_aload_n hX d_M_sheet_35 0 rfl ?_
      refine g_getR hX iw_43 sh_43 rfl fl_M_65 d_M_sheet_36 ?_
      refine g_iload_n hX d_M_sheet_39 1 rfl ?_
      refine g_iconst hX 1 d_M_sheet_40 (by decide) ?_
      refine g_bastore hX iw_61 sh_61 (by decide) d_M_sheet_41 h14 (fun σ16 h17 => ?_)
      refine g_aload_n hX d_M_sheet_42 0 rfl ?_
      refine g_getR hX iw_43 sh_43 rfl fl_M_69 d_M_sheet_43 ?_
      refine g_iload_n hX d_M_sheet_46 1 rfl ?_
      refine g_iload_n hX d_M_sheet_47 2 rfl ?_
      refine g_iastore hX iw_62 sh_62 d_M_sheet_48 h17 (fun σ18 h19 => ?_)
      refine g_aload_n hX d_M_sheet_49 0 rfl ?_
      refine g_getR hX iw_43 sh_43 rfl fl_M_72 d_M_sheet_50 ?_
      refine g_iload_n hX d_M_sheet_53 1 rfl ?_
      refine g_iload_n hX d_M_sheet_54 3 rfl ?_
      refine g_iastore hX iw_63 sh_63 d_M_sheet_55 h19 (fun σ20 h21 => ?_)
      refine g_iconst hX 0 d_M_sheet_56 (by decide) ?_
      refine g_istoreV hX [(4, .int 0), (0, .ref (adr Y 43)), (1, .int x1), (2, .int x2), (3, .int x3)] d_M_sheet_57 (by decide) rfl ?_
      obtain ⟨σ24, h28, h29⟩ := obind h21
      have KX29 : Gd X Y 1 σ24 [(3, .int x3)] 85 [] := by
        refine g_iload_n hX d_M_sheet_85 0 rfl ?_
        cases h29
        exact g_ireturn hX hR d_M_sheet_86
      refine g_sub (lv2 := [(0, .ref (adr Y 43)), (1, .int x1), (3, .int x3), (4, .int 0)]) [1, 2, 4, 0] rfl ?_
      refine g_loop (fun s => M_sheet_b1 x1 s.1 s.2) (fun s => Gd X Y 1 s.2 [(0, .ref (adr Y 43)), (1, .int x1), (3, .int x3), (4, .int s.1)] 59 []) σ24 ?_ fuel (0, σ20) h28
      intro s y27 h27 h25 h26
      obtain ⟨vq22, σ23⟩ := s
      have h27 : M_sheet_b1 x1 vq22 σ23 = some y27 := h27
      unfold M_sheet_b1 at h27
      show Gd X Y 1 σ23 [(0, .ref (adr Y 43)), (1, .int x1), (3, .int x3), (4, .int vq22)] 59 []
      refine g_iload hX d_M_sheet_59 3 rfl ?_
      refine g_bipush hX 60 d_M_sheet_61 (by decide) ?_
      refine g_icmp_ge hX 85 d_M_sheet_63 (by decide) h27 (fun h31 => ?_) (fun h32 => ?_)
      · refine g_sub (lv2 := [(3, .int x3)]) [2] rfl ?_
        cases h31
        have h30 := h26 σ23 rfl
        cases h30
        exact KX29
      · refine g_aload_n hX d_M_sheet_66 0 rfl ?_
        refine g_getR hX iw_43 sh_43 rfl fl_M_75 d_M_sheet_67 ?_
        refine g_bipush hX 60 d_M_sheet_70 (by decide) ?_
        refine g_iload_n hX d_M_sheet_72 1 rfl ?_
        refine g_imul hX d_M_sheet_73 ?_
        refine g_iload hX d_M_sheet_74 3 rfl ?_
        refine g_iadd hX d_M_sheet_76 ?_
        refine g_iconst hX 0 d_M_sheet_77 (by decide) ?_
        refine g_iastore hX iw_64 sh_64 d_M_sheet_78 h32 (fun σ33 h34 => ?_)
        refine g_iinc hX (fun vq35 => [(4, .int vq35), (0, .ref (adr Y 43)), (1, .int x1), (3, .int x3)]) d_M_sheet_79 3 rfl rfl (by decide) (fun _ => rfl) h34 (fun vq35 h36 => ?_)
        refine g_goto hX 59 d_M_sheet_82 (by decide) ?_
        refine g_sub (lv2 := [(0, .ref (adr Y 43)), (1, .int x1), (3, .int x3), (4, .int vq35)]) [1, 2, 3, 0] rfl ?_
        cases h36
        exact h25 (vq35, σ33) rfl
    · refine g_aload_n hX d_M_sheet_29 0 rfl ?_
      refine g_iconst hX 5 d_M_sheet_30 (by decide) ?_
      obtain ⟨⟨vq37, σ38⟩, h39, h40⟩ := ltex h15
      have h40 := lt2 h40
      refine g_callV hX [.int 5] [] mv_M_107 (c_M_meets X.2.1 Y 5 σ _ h39) (by decide) iw_43 sh_43 rfl rfl rfl (Nat.le_of_ble_eq_true rfl) d_M_sheet_31 (fun h41 => ?_)
      show Gd X Y 1 σ38 [(0, .ref (adr Y 43)), (1, .int x1), (2, .int x2), (3, .int x3)] 34 [.int vq37]
      cases h40
      exact g_ireturn hX hR d_M_sheet_34
  refine g_if_eq hX 22 d_M_sheet_4 (by decide) h3 (fun h5 => ?_) (fun h6 => ?_)
  · cases h5
    exact Kbq2t rfl
  · refine g_iload_n hX d_M_sheet_7 2 rfl ?_
    refine g_iconst hX 0 d_M_sheet_8 (by decide) ?_
    refine g_iconst hX 2 d_M_sheet_9 (by decide) ?_
    refine g_callS hX [.int x2, .int 0, .int 2] [] mv_M_85 (c_M_in X.2.1 Y x2 0 2 σ _ rfl) (by decide) rfl rfl (Nat.le_of_ble_eq_true rfl) d_M_sheet_10 (fun h7 => ?_)
    show Gd X Y 1 σ [(0, .ref (adr Y 43)), (1, .int x1), (2, .int x2), (3, .int x3)] 13 [.int (M_in x2 0 2)]
    refine g_if_eq hX 22 d_M_sheet_13 (by decide) h6 (fun h8 => ?_) (fun h9 => ?_)
    · cases h8
      exact Kbq2t rfl
    · refine g_iload_n hX d_M_sheet_16 3 rfl ?_
      refine g_bipush hX 60 d_M_sheet_17 (by decide) ?_
      refine g_icmp_le hX 25 d_M_sheet_19 (by decide) h9 (fun h10 => ?_) (fun h11 => ?_)
      · cases h10
        exact Kbq2f (by decide)
      · cases h11
        exact Kbq2t rfl
noncomputable def M_lose (x1 : Int32) (σ : Mem) : Option (Int32 × Mem) := if (M_isSheet x1) = 0 then some ((-2), σ) else (rd σ 61 x1).bind (fun vq4 => if vq4 = 0 then lt (M_meets 1 σ) (fun q => lt q.1 (fun vq12 => lt q.2 (fun σ13 => some (vq12, σ13)))) else (wr σ 61 x1 0).bind (fun σ8 => (rd σ8 63 x1).bind (fun vq10 => some (vq10, σ8))))
set_option maxHeartbeats 4000000 in
set_option maxRecDepth 100000 in
theorem c_M_lose (l : Launch) (Y : Wx) (x1 : Int32)  (σ : Mem) (o : Int32 × Mem) (hf : M_lose x1 σ = some o) : Ct l Y 1 y_M_lose b_M_lose 2 (some .int) 2 [.ref (adr Y 43), .int x1] σ (some (.int o.1)) o.2 := by
  unfold M_lose at hf
  refine ct_of (by decide) (Nat.le_of_ble_eq_true rfl) rfl (fun X hXl hX hR => ?_)
  subst hXl
  have hX : Fx X Y 1 b_M_lose 2 R_M 2 := hX
  refine g_iload_n hX d_M_lose_0 1 rfl ?_
  refine g_callS hX [.int x1] [] mv_M_103 (c_M_isSheet X.2.1 Y x1 σ _ rfl) (by decide) rfl rfl (Nat.le_of_ble_eq_true rfl) d_M_lose_1 (fun h1 => ?_)
  show Gd X Y 1 σ [(0, .ref (adr Y 43)), (1, .int x1)] 4 [.int (M_isSheet x1)]
  refine g_if_ne hX 10 d_M_lose_4 (by decide) hf (fun h2 => ?_) (fun h3 => ?_)
  · refine g_aload_n hX d_M_lose_10 0 rfl ?_
    refine g_getR hX iw_43 sh_43 rfl fl_M_65 d_M_lose_11 ?_
    refine g_iload_n hX d_M_lose_14 1 rfl ?_
    refine g_baload hX iw_61 sh_61 d_M_lose_15 h2 (fun vq4 h5 => ?_)
    refine g_if_ne hX 25 d_M_lose_16 (by decide) h5 (fun h6 => ?_) (fun h7 => ?_)
    · refine g_aload_n hX d_M_lose_25 0 rfl ?_
      refine g_getR hX iw_43 sh_43 rfl fl_M_65 d_M_lose_26 ?_
      refine g_iload_n hX d_M_lose_29 1 rfl ?_
      refine g_iconst hX 0 d_M_lose_30 (by decide) ?_
      refine g_bastore hX iw_61 sh_61 (by decide) d_M_lose_31 h6 (fun σ8 h9 => ?_)
      refine g_aload_n hX d_M_lose_32 0 rfl ?_
      refine g_getR hX iw_43 sh_43 rfl fl_M_72 d_M_lose_33 ?_
      refine g_iload_n hX d_M_lose_36 1 rfl ?_
      refine g_iaload hX iw_63 sh_63 d_M_lose_37 h9 (fun vq10 h11 => ?_)
      cases h11
      exact g_ireturn hX hR d_M_lose_38
    · refine g_aload_n hX d_M_lose_19 0 rfl ?_
      refine g_iconst hX 1 d_M_lose_20 (by decide) ?_
      obtain ⟨⟨vq12, σ13⟩, h14, h15⟩ := ltex h7
      have h15 := lt2 h15
      refine g_callV hX [.int 1] [] mv_M_107 (c_M_meets X.2.1 Y 1 σ _ h14) (by decide) iw_43 sh_43 rfl rfl rfl (Nat.le_of_ble_eq_true rfl) d_M_lose_21 (fun h16 => ?_)
      show Gd X Y 1 σ13 [(0, .ref (adr Y 43)), (1, .int x1)] 24 [.int vq12]
      cases h15
      exact g_ireturn hX hR d_M_lose_24
  · refine g_bipush hX (-2) d_M_lose_7 (by decide) ?_
    cases h3
    exact g_ireturn hX hR d_M_lose_9
noncomputable def M_lacks (x1 : Int32) (x2 : Int32) (x3 : Int32) (σ : Mem) : Option (Int32) := (rd σ 61 x1).bind (fun vq1 => ((if vq1 = 0 then some 1 else (rd σ 62 x1).bind (fun vq8 => if vq8 = x2 then (rd σ 63 x1).bind (fun vq12 => if (M_in x3 0 (vq12 - 1)) = 0 then some 2 else some 0) else some 3) : Option (Int32))).bind (fun vq17 => some vq17))
set_option maxHeartbeats 4000000 in
set_option maxRecDepth 100000 in
theorem c_M_lacks (l : Launch) (Y : Wx) (x1 : Int32) (x2 : Int32) (x3 : Int32)  (σ : Mem) (o : Int32) (hf : M_lacks x1 x2 x3 σ = some o) : Ct l Y 1 y_M_lacks b_M_lacks 4 (some .int) 1 [.ref (adr Y 43), .int x1, .int x2, .int x3] σ (some (.int o)) σ := by
  unfold M_lacks at hf
  refine ct_of (by decide) (Nat.le_of_ble_eq_true rfl) rfl (fun X hXl hX hR => ?_)
  subst hXl
  have hX : Fx X Y 1 b_M_lacks 4 R_M 1 := hX
  refine g_aload_n hX d_M_lacks_0 0 rfl ?_
  refine g_getR hX iw_43 sh_43 rfl fl_M_65 d_M_lacks_1 ?_
  refine g_iload_n hX d_M_lacks_4 1 rfl ?_
  refine g_baload hX iw_61 sh_61 d_M_lacks_5 hf (fun vq1 h2 => ?_)
  obtain ⟨vq17, h3, h4⟩ := obind h2
  have KJ4 : Gd X Y 1 σ [] 48 [.int vq17] := by
    cases h4
    exact g_ireturn hX hR d_M_lacks_48
  refine g_if_ne hX 13 d_M_lacks_6 (by decide) h3 (fun h6 => ?_) (fun h7 => ?_)
  · refine g_aload_n hX d_M_lacks_13 0 rfl ?_
    refine g_getR hX iw_43 sh_43 rfl fl_M_69 d_M_lacks_14 ?_
    refine g_iload_n hX d_M_lacks_17 1 rfl ?_
    refine g_iaload hX iw_62 sh_62 d_M_lacks_18 h6 (fun vq8 h9 => ?_)
    refine g_iload_n hX d_M_lacks_19 2 rfl ?_
    refine g_icmp_eq hX 27 d_M_lacks_20 (by decide) h9 (fun h10 => ?_) (fun h11 => ?_)
    · refine g_iload_n hX d_M_lacks_27 3 rfl ?_
      refine g_iconst hX 0 d_M_lacks_28 (by decide) ?_
      refine g_aload_n hX d_M_lacks_29 0 rfl ?_
      refine g_getR hX iw_43 sh_43 rfl fl_M_72 d_M_lacks_30 ?_
      refine g_iload_n hX d_M_lacks_33 1 rfl ?_
      refine g_iaload hX iw_63 sh_63 d_M_lacks_34 h10 (fun vq12 h13 => ?_)
      refine g_iconst hX 1 d_M_lacks_35 (by decide) ?_
      refine g_isub hX d_M_lacks_36 ?_
      refine g_callS hX [.int x3, .int 0, .int (vq12 - 1)] [] mv_M_85 (c_M_in X.2.1 Y x3 0 (vq12 - 1) σ _ rfl) (by decide) rfl rfl (Nat.le_of_ble_eq_true rfl) d_M_lacks_37 (fun h14 => ?_)
      show Gd X Y 1 σ [(0, .ref (adr Y 43)), (1, .int x1), (2, .int x2), (3, .int x3)] 40 [.int (M_in x3 0 (vq12 - 1))]
      refine g_if_eq hX 47 d_M_lacks_40 (by decide) h13 (fun h15 => ?_) (fun h16 => ?_)
      · refine g_iconst hX 2 d_M_lacks_47 (by decide) ?_
        refine g_sub (lv2 := []) [] rfl ?_
        cases h15
        exact KJ4
      · refine g_iconst hX 0 d_M_lacks_43 (by decide) ?_
        refine g_goto hX 48 d_M_lacks_44 (by decide) ?_
        refine g_sub (lv2 := []) [] rfl ?_
        cases h16
        exact KJ4
    · refine g_iconst hX 3 d_M_lacks_23 (by decide) ?_
      refine g_goto hX 48 d_M_lacks_24 (by decide) ?_
      refine g_sub (lv2 := []) [] rfl ?_
      cases h11
      exact KJ4
  · refine g_iconst hX 1 d_M_lacks_9 (by decide) ?_
    refine g_goto hX 48 d_M_lacks_10 (by decide) ?_
    refine g_sub (lv2 := []) [] rfl ?_
    cases h7
    exact KJ4
noncomputable def M_keep (x1 : Int32) (x2 : Int32) (x3 : Int32) (σ : Mem) : Option (Mem) := (rd σ 62 x1).bind (fun vq1 => ((if vq1 = 0 then some (x3.toInt8.toInt32) else (rd σ 62 x1).bind (fun vq8 => if vq8 = 1 then some (x3.toInt16.toInt32) else some x3) : Option (Int32))).bind (fun vq12 => (wr σ 64 ((60 * x1) + x2) vq12).bind (fun σ13 => some σ13)))
set_option maxHeartbeats 4000000 in
set_option maxRecDepth 100000 in
theorem c_M_keep (l : Launch) (Y : Wx) (x1 : Int32) (x2 : Int32) (x3 : Int32)  (σ : Mem) (o : Mem) (hf : M_keep x1 x2 x3 σ = some o) : Ct l Y 1 y_M_keep b_M_keep 4 none 0 [.ref (adr Y 43), .int x1, .int x2, .int x3] σ none o := by
  unfold M_keep at hf
  refine ct_of (by decide) (Nat.le_of_ble_eq_true rfl) rfl (fun X hXl hX hR => ?_)
  subst hXl
  have hX : Fx X Y 1 b_M_keep 4 R_M 0 := hX
  refine g_aload_n hX d_M_keep_0 0 rfl ?_
  refine g_getR hX iw_43 sh_43 rfl fl_M_75 d_M_keep_1 ?_
  refine g_bipush hX 60 d_M_keep_4 (by decide) ?_
  refine g_iload_n hX d_M_keep_6 1 rfl ?_
  refine g_imul hX d_M_keep_7 ?_
  refine g_iload_n hX d_M_keep_8 2 rfl ?_
  refine g_iadd hX d_M_keep_9 ?_
  refine g_aload_n hX d_M_keep_10 0 rfl ?_
  refine g_getR hX iw_43 sh_43 rfl fl_M_69 d_M_keep_11 ?_
  refine g_iload_n hX d_M_keep_14 1 rfl ?_
  refine g_iaload hX iw_62 sh_62 d_M_keep_15 hf (fun vq1 h2 => ?_)
  obtain ⟨vq12, h3, h4⟩ := obind h2
  have KJ4 : Gd X Y 1 σ [] 40 [.int vq12, .int ((60 * x1) + x2), .ref (adr Y 64)] := by
    refine g_iastore hX iw_64 sh_64 d_M_keep_40 h4 (fun σ13 h14 => ?_)
    cases h14
    exact g_return hX hR d_M_keep_41
  refine g_if_ne hX 24 d_M_keep_16 (by decide) h3 (fun h6 => ?_) (fun h7 => ?_)
  · refine g_aload_n hX d_M_keep_24 0 rfl ?_
    refine g_getR hX iw_43 sh_43 rfl fl_M_69 d_M_keep_25 ?_
    refine g_iload_n hX d_M_keep_28 1 rfl ?_
    refine g_iaload hX iw_62 sh_62 d_M_keep_29 h6 (fun vq8 h9 => ?_)
    refine g_iconst hX 1 d_M_keep_30 (by decide) ?_
    refine g_icmp_ne hX 39 d_M_keep_31 (by decide) h9 (fun h10 => ?_) (fun h11 => ?_)
    · refine g_iload_n hX d_M_keep_39 3 rfl ?_
      refine g_sub (lv2 := []) [] rfl ?_
      cases h10
      exact KJ4
    · refine g_iload_n hX d_M_keep_34 3 rfl ?_
      refine g_i2s hX d_M_keep_35 ?_
      refine g_goto hX 40 d_M_keep_36 (by decide) ?_
      refine g_sub (lv2 := []) [] rfl ?_
      cases h11
      exact KJ4
  · refine g_iload_n hX d_M_keep_19 3 rfl ?_
    refine g_i2b hX d_M_keep_20 ?_
    refine g_goto hX 40 d_M_keep_21 (by decide) ?_
    refine g_sub (lv2 := []) [] rfl ?_
    cases h7
    exact KJ4
noncomputable def M_put (x1 : Int32) (x2 : Int32) (x3 : Int32) (x4 : Int32) (σ : Mem) : Option (Int32 × Mem) := lt (if (M_isSheet x1) = 0 then true else if (M_in x2 0 2) = 0 then true else false : Bool) (fun bq2 => if bq2 = true then some ((-2), σ) else (M_lacks x1 x2 x3 σ).bind (fun vq12 => if vq12 ≤ 0 then (M_keep x1 x3 x4 σ).bind (fun σ18 => some (1, σ18)) else lt (M_meets vq12 σ) (fun q => lt q.1 (fun vq22 => lt q.2 (fun σ23 => some (vq22, σ23))))))
set_option maxHeartbeats 4000000 in
set_option maxRecDepth 100000 in
theorem c_M_put (l : Launch) (Y : Wx) (x1 : Int32) (x2 : Int32) (x3 : Int32) (x4 : Int32)  (σ : Mem) (o : Int32 × Mem) (hf : M_put x1 x2 x3 x4 σ = some o) : Ct l Y 1 y_M_put b_M_put 6 (some .int) 2 [.ref (adr Y 43), .int x1, .int x2, .int x3, .int x4] σ (some (.int o.1)) o.2 := by
  unfold M_put at hf
  refine ct_of (by decide) (Nat.le_of_ble_eq_true rfl) rfl (fun X hXl hX hR => ?_)
  subst hXl
  have hX : Fx X Y 1 b_M_put 6 R_M 2 := hX
  refine g_iload_n hX d_M_put_0 1 rfl ?_
  refine g_callS hX [.int x1] [] mv_M_103 (c_M_isSheet X.2.1 Y x1 σ _ rfl) (by decide) rfl rfl (Nat.le_of_ble_eq_true rfl) d_M_put_1 (fun h1 => ?_)
  show Gd X Y 1 σ [(0, .ref (adr Y 43)), (1, .int x1), (2, .int x2), (3, .int x3), (4, .int x4)] 4 [.int (M_isSheet x1)]
  obtain ⟨bq2, h3, h4⟩ := ltex hf
  have Kbq2t : bq2 = true → Gd X Y 1 σ [(0, .ref (adr Y 43)), (1, .int x1), (2, .int x2), (3, .int x3), (4, .int x4)] 16 [] := by
    intro h27
    have h10 := (if_pos h27).symm.trans h4
    refine g_bipush hX (-2) d_M_put_16 (by decide) ?_
    cases h10
    exact g_ireturn hX hR d_M_put_18
  have Kbq2f : ¬ bq2 = true → Gd X Y 1 σ [(0, .ref (adr Y 43)), (1, .int x1), (2, .int x2), (3, .int x3), (4, .int x4)] 19 [] := by
    intro h27
    have h11 := (if_neg h27).symm.trans h4
    refine g_aload_n hX d_M_put_19 0 rfl ?_
    refine g_iload_n hX d_M_put_20 1 rfl ?_
    refine g_iload_n hX d_M_put_21 2 rfl ?_
    refine g_iload_n hX d_M_put_22 3 rfl ?_
    obtain ⟨vq12, h13, h14⟩ := obind h11
    refine g_callV hX [.int x1, .int x2, .int x3] [] mv_M_251 (c_M_lacks X.2.1 Y x1 x2 x3 σ _ h13) (by decide) iw_43 sh_43 rfl rfl rfl (Nat.le_of_ble_eq_true rfl) d_M_put_23 (fun h15 => ?_)
    show Gd X Y 1 σ [(0, .ref (adr Y 43)), (1, .int x1), (2, .int x2), (3, .int x3), (4, .int x4)] 26 [.int vq12]
    refine g_istoreV hX [(5, .int vq12), (0, .ref (adr Y 43)), (1, .int x1), (2, .int x2), (3, .int x3), (4, .int x4)] d_M_put_26 (by decide) rfl ?_
    refine g_iload hX d_M_put_28 0 rfl ?_
    refine g_if_le hX 40 d_M_put_30 (by decide) h14 (fun h16 => ?_) (fun h17 => ?_)
    · refine g_aload_n hX d_M_put_40 1 rfl ?_
      refine g_iload_n hX d_M_put_41 2 rfl ?_
      refine g_iload_n hX d_M_put_42 4 rfl ?_
      refine g_iload hX d_M_put_43 5 rfl ?_
      obtain ⟨σ18, h19, h20⟩ := obind h16
      refine g_callV hX [.int x1, .int x3, .int x4] [] mv_M_254 (c_M_keep X.2.1 Y x1 x3 x4 σ _ h19) (by decide) iw_43 sh_43 rfl rfl rfl (Nat.le_of_ble_eq_true rfl) d_M_put_45 (fun h21 => ?_)
      show Gd X Y 1 σ18 [(5, .int vq12), (0, .ref (adr Y 43)), (1, .int x1), (2, .int x2), (3, .int x3), (4, .int x4)] 48 []
      refine g_iconst hX 1 d_M_put_48 (by decide) ?_
      cases h20
      exact g_ireturn hX hR d_M_put_49
    · refine g_aload_n hX d_M_put_33 1 rfl ?_
      refine g_iload hX d_M_put_34 0 rfl ?_
      obtain ⟨⟨vq22, σ23⟩, h24, h25⟩ := ltex h17
      have h25 := lt2 h25
      refine g_callV hX [.int vq12] [] mv_M_107 (c_M_meets X.2.1 Y vq12 σ _ h24) (by decide) iw_43 sh_43 rfl rfl rfl (Nat.le_of_ble_eq_true rfl) d_M_put_36 (fun h26 => ?_)
      show Gd X Y 1 σ23 [(5, .int vq12), (0, .ref (adr Y 43)), (1, .int x1), (2, .int x2), (3, .int x3), (4, .int x4)] 39 [.int vq22]
      cases h25
      exact g_ireturn hX hR d_M_put_39
  refine g_if_eq hX 16 d_M_put_4 (by decide) h3 (fun h5 => ?_) (fun h6 => ?_)
  · cases h5
    exact Kbq2t rfl
  · refine g_iload_n hX d_M_put_7 2 rfl ?_
    refine g_iconst hX 0 d_M_put_8 (by decide) ?_
    refine g_iconst hX 2 d_M_put_9 (by decide) ?_
    refine g_callS hX [.int x2, .int 0, .int 2] [] mv_M_85 (c_M_in X.2.1 Y x2 0 2 σ _ rfl) (by decide) rfl rfl (Nat.le_of_ble_eq_true rfl) d_M_put_10 (fun h7 => ?_)
    show Gd X Y 1 σ [(0, .ref (adr Y 43)), (1, .int x1), (2, .int x2), (3, .int x3), (4, .int x4)] 13 [.int (M_in x2 0 2)]
    refine g_if_ne hX 19 d_M_put_13 (by decide) h6 (fun h8 => ?_) (fun h9 => ?_)
    · cases h8
      exact Kbq2f (by decide)
    · cases h9
      exact Kbq2t rfl
noncomputable def M_get (x1 : Int32) (x2 : Int32) (x3 : Int32) (σ : Mem) : Option (Int32 × Mem) := lt (if (M_isSheet x1) = 0 then true else if (M_in x2 0 2) = 0 then true else false : Bool) (fun bq2 => if bq2 = true then some ((-2147483648), σ) else (M_lacks x1 x2 x3 σ).bind (fun vq12 => if vq12 ≤ 0 then (rd σ 64 ((60 * x1) + x3)).bind (fun vq18 => some (vq18, σ)) else lt (mput σ 43 29 vq12) (fun σ20 => some ((-2147483648), σ20))))
set_option maxHeartbeats 4000000 in
set_option maxRecDepth 100000 in
theorem c_M_get (l : Launch) (Y : Wx) (x1 : Int32) (x2 : Int32) (x3 : Int32)  (σ : Mem) (o : Int32 × Mem) (hf : M_get x1 x2 x3 σ = some o) : Ct l Y 1 y_M_get b_M_get 5 (some .int) 2 [.ref (adr Y 43), .int x1, .int x2, .int x3] σ (some (.int o.1)) o.2 := by
  unfold M_get at hf
  refine ct_of (by decide) (Nat.le_of_ble_eq_true rfl) rfl (fun X hXl hX hR => ?_)
  subst hXl
  have hX : Fx X Y 1 b_M_get 5 R_M 2 := hX
  refine g_iload_n hX d_M_get_0 1 rfl ?_
  refine g_callS hX [.int x1] [] mv_M_103 (c_M_isSheet X.2.1 Y x1 σ _ rfl) (by decide) rfl rfl (Nat.le_of_ble_eq_true rfl) d_M_get_1 (fun h1 => ?_)
  show Gd X Y 1 σ [(0, .ref (adr Y 43)), (1, .int x1), (2, .int x2), (3, .int x3)] 4 [.int (M_isSheet x1)]
  obtain ⟨bq2, h3, h4⟩ := ltex hf
  have Kbq2t : bq2 = true → Gd X Y 1 σ [(0, .ref (adr Y 43)), (1, .int x1), (2, .int x2), (3, .int x3)] 16 [] := by
    intro h22
    have h10 := (if_pos h22).symm.trans h4
    refine g_ldcw hX d_M_get_16 q_715 ?_
    cases h10
    exact g_ireturn hX hR d_M_get_19
  have Kbq2f : ¬ bq2 = true → Gd X Y 1 σ [(0, .ref (adr Y 43)), (1, .int x1), (2, .int x2), (3, .int x3)] 20 [] := by
    intro h22
    have h11 := (if_neg h22).symm.trans h4
    refine g_aload_n hX d_M_get_20 0 rfl ?_
    refine g_iload_n hX d_M_get_21 1 rfl ?_
    refine g_iload_n hX d_M_get_22 2 rfl ?_
    refine g_iload_n hX d_M_get_23 3 rfl ?_
    obtain ⟨vq12, h13, h14⟩ := obind h11
    refine g_callV hX [.int x1, .int x2, .int x3] [] mv_M_251 (c_M_lacks X.2.1 Y x1 x2 x3 σ _ h13) (by decide) iw_43 sh_43 rfl rfl rfl (Nat.le_of_ble_eq_true rfl) d_M_get_24 (fun h15 => ?_)
    show Gd X Y 1 σ [(0, .ref (adr Y 43)), (1, .int x1), (2, .int x2), (3, .int x3)] 27 [.int vq12]
    refine g_istoreV hX [(4, .int vq12), (0, .ref (adr Y 43)), (1, .int x1), (2, .int x2), (3, .int x3)] d_M_get_27 (by decide) rfl ?_
    refine g_iload hX d_M_get_29 0 rfl ?_
    refine g_if_le hX 44 d_M_get_31 (by decide) h14 (fun h16 => ?_) (fun h17 => ?_)
    · refine g_aload_n hX d_M_get_44 1 rfl ?_
      refine g_getR hX iw_43 sh_43 rfl fl_M_75 d_M_get_45 ?_
      refine g_bipush hX 60 d_M_get_48 (by decide) ?_
      refine g_iload_n hX d_M_get_50 2 rfl ?_
      refine g_imul hX d_M_get_51 ?_
      refine g_iload_n hX d_M_get_52 4 rfl ?_
      refine g_iadd hX d_M_get_53 ?_
      refine g_iaload hX iw_64 sh_64 d_M_get_54 h16 (fun vq18 h19 => ?_)
      cases h19
      exact g_ireturn hX hR d_M_get_55
    · refine g_aload_n hX d_M_get_34 1 rfl ?_
      refine g_iload hX d_M_get_35 0 rfl ?_
      refine g_putI hX iw_43 sh_43 rfl fl_M_248 d_M_get_37 h17 (fun σ20 h21 => ?_)
      refine g_ldcw hX d_M_get_40 q_715 ?_
      cases h21
      exact g_ireturn hX hR d_M_get_43
  refine g_if_eq hX 16 d_M_get_4 (by decide) h3 (fun h5 => ?_) (fun h6 => ?_)
  · cases h5
    exact Kbq2t rfl
  · refine g_iload_n hX d_M_get_7 2 rfl ?_
    refine g_iconst hX 0 d_M_get_8 (by decide) ?_
    refine g_iconst hX 2 d_M_get_9 (by decide) ?_
    refine g_callS hX [.int x2, .int 0, .int 2] [] mv_M_85 (c_M_in X.2.1 Y x2 0 2 σ _ rfl) (by decide) rfl rfl (Nat.le_of_ble_eq_true rfl) d_M_get_10 (fun h7 => ?_)
    show Gd X Y 1 σ [(0, .ref (adr Y 43)), (1, .int x1), (2, .int x2), (3, .int x3)] 13 [.int (M_in x2 0 2)]
    refine g_if_ne hX 20 d_M_get_13 (by decide) h6 (fun h8 => ?_) (fun h9 => ?_)
    · cases h8
      exact Kbq2f (by decide)
    · cases h9
      exact Kbq2t rfl
