noncomputable def T_reduceFree (t : Nat) (x1 : Int32) (x2 : Int32) (σ : Mem) : Option (Int32 × Mem) := (T_partIn t x1 x2 1 0 σ).bind (fun vq1 => (T_partIn t x1 x2 1 1 σ).bind (fun vq5 => (T_partIn t x1 x2 1 2 σ).bind (fun vq9 => if vq9 = (-1) then ((if vq1 = (-1) then some (false, σ) else (T_splitToLine t vq1 x2 1 σ).bind (fun q => lt q.1 (fun vq21 => lt q.2 (fun σ22 => if vq21 = 0 then some (true, σ22) else some (false, σ22)))) : Option (Bool × Mem))).bind (fun q => lt q.1 (fun bq15 => lt q.2 (fun σ16 => if bq15 = true then some (0, σ16) else (T_bundle t x1 x2 2 σ16).bind (fun q => lt q.1 (fun vq30 => lt q.2 (fun σ31 => (T_append t vq30 σ31).bind (fun σ35 => ((if vq5 = (-1) then some (false, σ35) else (T_splitToLine t vq5 x2 0 σ35).bind (fun q => lt q.1 (fun vq45 => lt q.2 (fun σ46 => if vq45 = 0 then some (true, σ46) else some (false, σ46)))) : Option (Bool × Mem))).bind (fun q => lt q.1 (fun bq39 => lt q.2 (fun σ40 => if bq39 = true then some (0, σ40) else (T_keepEmpty t x1 x2 σ40).bind (fun σ54 => (rd σ54 (t + 3) x1).bind (fun vq58 => ((if vq58 = 0 then (T_fillFromLine t x1 σ54).bind (fun σ86 => some σ86) else if (σ54 t 7) = 1 then (rd σ54 (t + 5) 0).bind (fun vq80 => (T_add t x1 vq80 σ54).bind (fun σ82 => some σ82)) else (T_unusedNode t σ54).bind (fun vq67 => (T_fillFromLine t vq67 σ54).bind (fun σ71 => (T_add t x1 vq67 σ71).bind (fun σ75 => some σ75))) : Option (Mem))).bind (fun σ79 => some (1, σ79)))))))))))))) else some (0, σ))))
set_option maxHeartbeats 4000000 in
set_option maxRecDepth 100000 in
theorem c_T_reduceFree (l : Launch) (Y : Wx) (t : Nat) (x1 : Int32) (x2 : Int32) (ht : isT t) (σ : Mem) (o : Int32 × Mem) (hf : T_reduceFree t x1 x2 σ = some o) : Ct l Y 0 y_T_reduceFree b_T_reduceFree 6 (some .boolean) 3 [.ref (adr Y t), .int x1, .int x2] σ (some (.int o.1)) o.2 := by
  unfold T_reduceFree at hf
  refine ct_of (by decide) (Nat.le_of_ble_eq_true rfl) rfl (fun X hXl hX hR => ?_)
  subst hXl
  have hX : Fx X Y 0 b_T_reduceFree 6 R_T 3 := hX
  refine g_aload_n hX d_T_reduceFree_0 0 rfl ?_
  refine g_iload_n hX d_T_reduceFree_1 1 rfl ?_
  refine g_iload_n hX d_T_reduceFree_2 2 rfl ?_
  refine g_iconst hX 1 d_T_reduceFree_3 (by decide) ?_
  refine g_iconst hX 0 d_T_reduceFree_4 (by decide) ?_
  obtain ⟨vq1, h2, h3⟩ := obind hf
  refine g_callV hX [.int x1, .int x2, .int 1, .int 0] [] mv_T_110 (c_T_partIn X.2.1 Y t x1 x2 1 0 ht σ _ h2) (by decide) (iwT ht) (shTt ht) rfl rfl rfl (Nat.le_of_ble_eq_true rfl) d_T_reduceFree_5 (fun h4 => ?_)
  show Gd X Y 0 σ [(0, .ref (adr Y t)), (1, .int x1), (2, .int x2)] 8 [.int vq1]
  refine g_istore_nV hX [(3, .int vq1), (0, .ref (adr Y t)), (1, .int x1), (2, .int x2)] d_T_reduceFree_8 (by decide) rfl ?_
  refine g_aload_n hX d_T_reduceFree_9 1 rfl ?_
  refine g_iload_n hX d_T_reduceFree_10 2 rfl ?_
  refine g_iload_n hX d_T_reduceFree_11 3 rfl ?_
  refine g_iconst hX 1 d_T_reduceFree_12 (by decide) ?_
  refine g_iconst hX 1 d_T_reduceFree_13 (by decide) ?_
  obtain ⟨vq5, h6, h7⟩ := obind h3
  refine g_callV hX [.int x1, .int x2, .int 1, .int 1] [] mv_T_110 (c_T_partIn X.2.1 Y t x1 x2 1 1 ht σ _ h6) (by decide) (iwT ht) (shTt ht) rfl rfl rfl (Nat.le_of_ble_eq_true rfl) d_T_reduceFree_14 (fun h8 => ?_)
  show Gd X Y 0 σ [(3, .int vq1), (0, .ref (adr Y t)), (1, .int x1), (2, .int x2)] 17 [.int vq5]
  refine g_istoreV hX [(4, .int vq5), (3, .int vq1), (0, .ref (adr Y t)), (1, .int x1), (2, .int x2)] d_T_reduceFree_17 (by decide) rfl ?_
  refine g_aload_n hX d_T_reduceFree_19 2 rfl ?_
  refine g_iload_n hX d_T_reduceFree_20 3 rfl ?_
  refine g_iload_n hX d_T_reduceFree_21 4 rfl ?_
  refine g_iconst hX 1 d_T_reduceFree_22 (by decide) ?_
  refine g_iconst hX 2 d_T_reduceFree_23 (by decide) ?_
  obtain ⟨vq9, h10, h11⟩ := obind h7
  refine g_callV hX [.int x1, .int x2, .int 1, .int 2] [] mv_T_110 (c_T_partIn X.2.1 Y t x1 x2 1 2 ht σ _ h10) (by decide) (iwT ht) (shTt ht) rfl rfl rfl (Nat.le_of_ble_eq_true rfl) d_T_reduceFree_24 (fun h12 => ?_)
  show Gd X Y 0 σ [(4, .int vq5), (3, .int vq1), (0, .ref (adr Y t)), (1, .int x1), (2, .int x2)] 27 [.int vq9]
  refine g_iconst hX (-1) d_T_reduceFree_27 (by decide) ?_
  refine g_icmp_eq hX 33 d_T_reduceFree_28 (by decide) h11 (fun h13 => ?_) (fun h14 => ?_)
  · refine g_iload_n hX d_T_reduceFree_33 1 rfl ?_
    refine g_iconst hX (-1) d_T_reduceFree_34 (by decide) ?_
    obtain ⟨⟨bq15, σ16⟩, h17, h18⟩ := obind h13
    have h18 := lt2 h18
    have Kbq15t : bq15 = true → Gd X Y 0 σ16 [(4, .int vq5), (3, .int vq1), (0, .ref (adr Y t)), (1, .int x1), (2, .int x2)] 48 [] := by
      intro h91
      have h28 := (if_pos h91).symm.trans h18
      refine g_iconst hX 0 d_T_reduceFree_48 (by decide) ?_
      cases h28
      exact g_zreturn hX hR okB0 d_T_reduceFree_49
    have Kbq15f : ¬ bq15 = true → Gd X Y 0 σ16 [(4, .int vq5), (3, .int vq1), (0, .ref (adr Y t)), (1, .int x1), (2, .int x2)] 50 [] := by
      intro h91
      have h29 := (if_neg h91).symm.trans h18
      refine g_aload_n hX d_T_reduceFree_50 2 rfl ?_
      refine g_aload_n hX d_T_reduceFree_51 2 rfl ?_
      refine g_iload_n hX d_T_reduceFree_52 3 rfl ?_
      refine g_iload_n hX d_T_reduceFree_53 4 rfl ?_
      refine g_iconst hX 2 d_T_reduceFree_54 (by decide) ?_
      obtain ⟨⟨vq30, σ31⟩, h32, h33⟩ := obind h29
      have h33 := lt2 h33
      refine g_callV hX [.int x1, .int x2, .int 2] [.ref (adr Y t)] mv_T_118 (c_T_bundle X.2.1 Y t x1 x2 2 ht σ16 _ h32) (by decide) (iwT ht) (shTt ht) rfl rfl rfl (Nat.le_of_ble_eq_true rfl) d_T_reduceFree_55 (fun h34 => ?_)
      show Gd X Y 0 σ31 [(4, .int vq5), (3, .int vq1), (0, .ref (adr Y t)), (1, .int x1), (2, .int x2)] 58 [.int vq30, .ref (adr Y t)]
      obtain ⟨σ35, h36, h37⟩ := obind h33
      refine g_callV hX [.int vq30] [] mv_T_122 (c_T_append X.2.1 Y t vq30 ht σ31 _ h36) (by decide) (iwT ht) (shTt ht) rfl rfl rfl (Nat.le_of_ble_eq_true rfl) d_T_reduceFree_58 (fun h38 => ?_)
      show Gd X Y 0 σ35 [(4, .int vq5), (3, .int vq1), (0, .ref (adr Y t)), (1, .int x1), (2, .int x2)] 61 []
      refine g_iload hX d_T_reduceFree_61 0 rfl ?_
      refine g_iconst hX (-1) d_T_reduceFree_63 (by decide) ?_
      obtain ⟨⟨bq39, σ40⟩, h41, h42⟩ := obind h37
      have h42 := lt2 h42
      have Kbq39t : bq39 = true → Gd X Y 0 σ40 [(4, .int vq5), (3, .int vq1), (0, .ref (adr Y t)), (1, .int x1), (2, .int x2)] 78 [] := by
        intro h90
        have h52 := (if_pos h90).symm.trans h42
        refine g_iconst hX 0 d_T_reduceFree_78 (by decide) ?_
        cases h52
        exact g_zreturn hX hR okB0 d_T_reduceFree_79
      have Kbq39f : ¬ bq39 = true → Gd X Y 0 σ40 [(4, .int vq5), (3, .int vq1), (0, .ref (adr Y t)), (1, .int x1), (2, .int x2)] 80 [] := by
        intro h90
        have h53 := (if_neg h90).symm.trans h42
        refine g_aload_n hX d_T_reduceFree_80 2 rfl ?_
        refine g_iload_n hX d_T_reduceFree_81 3 rfl ?_
        refine g_iload_n hX d_T_reduceFree_82 4 rfl ?_
        obtain ⟨σ54, h55, h56⟩ := obind h53
        refine g_callV hX [.int x1, .int x2] [] mv_T_125 (c_T_keepEmpty X.2.1 Y t x1 x2 ht σ40 _ h55) (by decide) (iwT ht) (shTt ht) rfl rfl rfl (Nat.le_of_ble_eq_true rfl) d_T_reduceFree_83 (fun h57 => ?_)
        show Gd X Y 0 σ54 [(4, .int vq5), (3, .int vq1), (0, .ref (adr Y t)), (1, .int x1), (2, .int x2)] 86 []
        refine g_aload_n hX d_T_reduceFree_86 2 rfl ?_
        refine g_getR hX (iwT ht) (shTt ht) rfl fl_T_18 d_T_reduceFree_87 ?_
        refine g_iload_n hX d_T_reduceFree_90 3 rfl ?_
        refine g_iaload hX (iwA3 ht) (shA3 ht) d_T_reduceFree_91 h56 (fun vq58 h59 => ?_)
        obtain ⟨σ79, h60, h61⟩ := obind h59
        have KJ61 : Gd X Y 0 σ79 [] 144 [] := by
          refine g_iconst hX 1 d_T_reduceFree_144 (by decide) ?_
          cases h61
          exact g_zreturn hX hR okB1 d_T_reduceFree_145
        refine g_if_ne hX 103 d_T_reduceFree_92 (by decide) h60 (fun h63 => ?_) (fun h64 => ?_)
        · refine g_aload_n hX d_T_reduceFree_103 2 rfl ?_
          refine g_getI hX (iwT ht) (shTt ht) rfl fl_T_34.f d_T_reduceFree_104 ?_
          refine g_iconst hX 1 d_T_reduceFree_107 (by decide) ?_
          refine g_icmp_ne hX 125 d_T_reduceFree_108 (by decide) h63 (fun h65 => ?_) (fun h66 => ?_)
          · refine g_aload_n hX d_T_reduceFree_125 2 rfl ?_
            obtain ⟨vq67, h68, h69⟩ := obind h65
            refine g_callV hX [] [] mv_T_131 (c_T_unusedNode X.2.1 Y t ht σ54 _ h68) (by decide) (iwT ht) (shTt ht) rfl rfl rfl (Nat.le_of_ble_eq_true rfl) d_T_reduceFree_126 (fun h70 => ?_)
            show Gd X Y 0 σ54 [(4, .int vq5), (3, .int vq1), (0, .ref (adr Y t)), (1, .int x1), (2, .int x2)] 129 [.int vq67]
            refine g_istoreV hX [(5, .int vq67), (4, .int vq5), (3, .int vq1), (0, .ref (adr Y t)), (1, .int x1), (2, .int x2)] d_T_reduceFree_129 (by decide) rfl ?_
            refine g_aload_n hX d_T_reduceFree_131 3 rfl ?_
            refine g_iload hX d_T_reduceFree_132 0 rfl ?_
            obtain ⟨σ71, h72, h73⟩ := obind h69
            refine g_callV hX [.int vq67] [] mv_T_128 (c_T_fillFromLine X.2.1 Y t vq67 ht σ54 _ h72) (by decide) (iwT ht) (shTt ht) rfl rfl rfl (Nat.le_of_ble_eq_true rfl) d_T_reduceFree_134 (fun h74 => ?_)
            show Gd X Y 0 σ71 [(5, .int vq67), (4, .int vq5), (3, .int vq1), (0, .ref (adr Y t)), (1, .int x1), (2, .int x2)] 137 []
            refine g_aload_n hX d_T_reduceFree_137 3 rfl ?_
            refine g_iload_n hX d_T_reduceFree_138 4 rfl ?_
            refine g_iload hX d_T_reduceFree_139 0 rfl ?_
            obtain ⟨σ75, h76, h77⟩ := obind h73
            refine g_callV hX [.int x1, .int vq67] [] mv_T_61 (c_T_add X.2.1 Y t x1 vq67 ht σ71 _ h76) (by decide) (iwT ht) (shTt ht) rfl rfl rfl (Nat.le_of_ble_eq_true rfl) d_T_reduceFree_141 (fun h78 => ?_)
            show Gd X Y 0 σ75 [(5, .int vq67), (4, .int vq5), (3, .int vq1), (0, .ref (adr Y t)), (1, .int x1), (2, .int x2)] 144 []
            refine g_sub (lv2 := []) [] rfl ?_
            cases h77
            exact KJ61
          · refine g_aload_n hX d_T_reduceFree_111 2 rfl ?_
            refine g_iload_n hX d_T_reduceFree_112 3 rfl ?_
            refine g_aload_n hX d_T_reduceFree_113 2 rfl ?_
            refine g_getR hX (iwT ht) (shTt ht) rfl fl_T_31 d_T_reduceFree_114 ?_
            refine g_iconst hX 0 d_T_reduceFree_117 (by decide) ?_
            refine g_iaload hX (iwA5 ht) (shA5 ht) d_T_reduceFree_118 h66 (fun vq80 h81 => ?_)
            obtain ⟨σ82, h83, h84⟩ := obind h81
            refine g_callV hX [.int x1, .int vq80] [] mv_T_61 (c_T_add X.2.1 Y t x1 vq80 ht σ54 _ h83) (by decide) (iwT ht) (shTt ht) rfl rfl rfl (Nat.le_of_ble_eq_true rfl) d_T_reduceFree_119 (fun h85 => ?_)
            show Gd X Y 0 σ82 [(4, .int vq5), (3, .int vq1), (0, .ref (adr Y t)), (1, .int x1), (2, .int x2)] 122 []
            refine g_goto hX 144 d_T_reduceFree_122 (by decide) ?_
            refine g_sub (lv2 := []) [] rfl ?_
            cases h84
            exact KJ61
        · refine g_aload_n hX d_T_reduceFree_95 2 rfl ?_
          refine g_iload_n hX d_T_reduceFree_96 3 rfl ?_
          obtain ⟨σ86, h87, h88⟩ := obind h64
          refine g_callV hX [.int x1] [] mv_T_128 (c_T_fillFromLine X.2.1 Y t x1 ht σ54 _ h87) (by decide) (iwT ht) (shTt ht) rfl rfl rfl (Nat.le_of_ble_eq_true rfl) d_T_reduceFree_97 (fun h89 => ?_)
          show Gd X Y 0 σ86 [(4, .int vq5), (3, .int vq1), (0, .ref (adr Y t)), (1, .int x1), (2, .int x2)] 100 []
          refine g_goto hX 144 d_T_reduceFree_100 (by decide) ?_
          refine g_sub (lv2 := []) [] rfl ?_
          cases h88
          exact KJ61
      refine g_icmp_eq hX 80 d_T_reduceFree_64 (by decide) h41 (fun h43 => ?_) (fun h44 => ?_)
      · cases h43
        exact Kbq39f (by decide)
      · refine g_aload_n hX d_T_reduceFree_67 2 rfl ?_
        refine g_iload hX d_T_reduceFree_68 0 rfl ?_
        refine g_iload_n hX d_T_reduceFree_70 4 rfl ?_
        refine g_iconst hX 0 d_T_reduceFree_71 (by decide) ?_
        obtain ⟨⟨vq45, σ46⟩, h47, h48⟩ := obind h44
        have h48 := lt2 h48
        refine g_callV hX [.int vq5, .int x2, .int 0] [] mv_T_114 (c_T_splitToLine X.2.1 Y t vq5 x2 0 ht σ35 _ h47) (by decide) (iwT ht) (shTt ht) rfl rfl rfl (Nat.le_of_ble_eq_true rfl) d_T_reduceFree_72 (fun h49 => ?_)
        show Gd X Y 0 σ46 [(4, .int vq5), (3, .int vq1), (0, .ref (adr Y t)), (1, .int x1), (2, .int x2)] 75 [.int vq45]
        refine g_if_ne hX 80 d_T_reduceFree_75 (by decide) h48 (fun h50 => ?_) (fun h51 => ?_)
        · cases h50
          exact Kbq39f (by decide)
        · cases h51
          exact Kbq39t rfl
    refine g_icmp_eq hX 50 d_T_reduceFree_35 (by decide) h17 (fun h19 => ?_) (fun h20 => ?_)
    · cases h19
      exact Kbq15f (by decide)
    · refine g_aload_n hX d_T_reduceFree_38 2 rfl ?_
      refine g_iload_n hX d_T_reduceFree_39 1 rfl ?_
      refine g_iload_n hX d_T_reduceFree_40 4 rfl ?_
      refine g_iconst hX 1 d_T_reduceFree_41 (by decide) ?_
      obtain ⟨⟨vq21, σ22⟩, h23, h24⟩ := obind h20
      have h24 := lt2 h24
      refine g_callV hX [.int vq1, .int x2, .int 1] [] mv_T_114 (c_T_splitToLine X.2.1 Y t vq1 x2 1 ht σ _ h23) (by decide) (iwT ht) (shTt ht) rfl rfl rfl (Nat.le_of_ble_eq_true rfl) d_T_reduceFree_42 (fun h25 => ?_)
      show Gd X Y 0 σ22 [(4, .int vq5), (3, .int vq1), (0, .ref (adr Y t)), (1, .int x1), (2, .int x2)] 45 [.int vq21]
      refine g_if_ne hX 50 d_T_reduceFree_45 (by decide) h24 (fun h26 => ?_) (fun h27 => ?_)
      · cases h26
        exact Kbq15f (by decide)
      · cases h27
        exact Kbq15t rfl
  · refine g_iconst hX 0 d_T_reduceFree_31 (by decide) ?_
    cases h14
    exact g_zreturn hX hR okB0 d_T_reduceFree_32
noncomputable def T_reduceTurning_b1 (t : Nat) (x1 : Int32) (x2 : Int32) (vq1 : Int32) (vq2 : Int32) (σ3 : Mem) : Option ((Int32 × Int32 × Mem) ⊕ ((Mem) ⊕ (Int32 × Mem))) := (rd σ3 (t + 3) x1).bind (fun vq11 => if vq11 ≤ vq2 then some (.inr (.inl σ3)) else (T_part t x1 vq2 σ3).bind (fun vq15 => (T_stateOf t vq15 x2 σ3).bind (fun vq19 => ((if vq19 = 0 then lt (if vq1 = 0 then 0 else 2 : Int32) (fun vq62 => (T_append t vq15 σ3).bind (fun σ63 => some (.inl (vq62, σ63)))) else if vq1 = 2 then some (.inr (.inr (.inr (0, σ3)))) else if vq19 = 2 then (T_append t vq15 σ3).bind (fun σ53 => some (.inl (1, σ53))) else lt (if vq1 = 0 then 1 else 0 : Int32) (fun vq37 => (T_splitToLine t vq15 x2 vq37 σ3).bind (fun q => lt q.1 (fun vq38 => lt q.2 (fun σ39 => if vq38 = 0 then some (.inr (.inr (.inr (0, σ39)))) else lt (if vq37 = 0 then 2 else 1 : Int32) (fun vq50 => some (.inl (vq50, σ39))))))) : Option ((Int32 × Mem) ⊕ ((Int32 × Int32 × Mem) ⊕ ((Mem) ⊕ (Int32 × Mem)))))).bind (fun x => Sum.elim (fun q => lt q.1 (fun vq51 => lt q.2 (fun σ52 => lt (vq2 + 1) (fun vq67 => some (.inl (vq51, vq67, σ52)))))) (fun z => some z) x))))
noncomputable def T_reduceTurning (t : Nat) (x1 : Int32) (x2 : Int32) (σ : Mem) : Option (Int32 × Mem) := (lp (fun s => T_reduceTurning_b1 t x1 x2 s.1 s.2.1 s.2.2) fuel (0, 0, σ)).bind (fun x => Sum.elim (fun σ4 => (T_fillFromLine t x1 σ4).bind (fun σ69 => some (1, σ69))) (fun z => some z) x)
set_option maxHeartbeats 4000000 in
set_option maxRecDepth 100000 in
theorem c_T_reduceTurning (l : Launch) (Y : Wx) (t : Nat) (x1 : Int32) (x2 : Int32) (ht : isT t) (σ : Mem) (o : Int32 × Mem) (hf : T_reduceTurning t x1 x2 σ = some o) : Ct l Y 0 y_T_reduceTurning b_T_reduceTurning 8 (some .boolean) 3 [.ref (adr Y t), .int x1, .int x2] σ (some (.int o.1)) o.2 := by
  unfold T_reduceTurning at hf
  refine ct_of (by decide) (Nat.le_of_ble_eq_true rfl) rfl (fun X hXl hX hR => ?_)
  subst hXl
  have hX : Fx X Y 0 b_T_reduceTurning 8 R_T 3 := hX
  refine g_iconst hX 0 d_T_reduceTurning_0 (by decide) ?_
  refine g_istore_nV hX [(3, .int 0), (0, .ref (adr Y t)), (1, .int x1), (2, .int x2)] d_T_reduceTurning_1 (by decide) rfl ?_
  refine g_iconst hX 0 d_T_reduceTurning_2 (by decide) ?_
  refine g_istoreV hX [(4, .int 0), (3, .int 0), (0, .ref (adr Y t)), (1, .int x1), (2, .int x2)] d_T_reduceTurning_3 (by decide) rfl ?_
  obtain ⟨h8x, h8, h9⟩ := obind hf
  have KX9 : ∀ (σ4 : Mem) , h8x = .inl σ4 → Gd X Y 0 σ4 [(0, .ref (adr Y t)), (1, .int x1)] 124 [] := by
    intro σ4 h10
    subst h10
    dsimp only [Sum.elim_inl] at h9
    refine g_aload_n hX d_T_reduceTurning_124 0 rfl ?_
    refine g_iload_n hX d_T_reduceTurning_125 1 rfl ?_
    obtain ⟨σ69, h70, h71⟩ := obind h9
    refine g_callV hX [.int x1] [] mv_T_128 (c_T_fillFromLine X.2.1 Y t x1 ht σ4 _ h70) (by decide) (iwT ht) (shTt ht) rfl rfl rfl (Nat.le_of_ble_eq_true rfl) d_T_reduceTurning_126 (fun h72 => ?_)
    show Gd X Y 0 σ69 [(0, .ref (adr Y t)), (1, .int x1)] 129 []
    refine g_iconst hX 1 d_T_reduceTurning_129 (by decide) ?_
    cases h71
    exact g_zreturn hX hR okB1 d_T_reduceTurning_130
  refine g_sub (lv2 := [(0, .ref (adr Y t)), (1, .int x1), (2, .int x2), (3, .int 0), (4, .int 0)]) [2, 3, 4, 1, 0] rfl ?_
  refine g_loop (fun s => T_reduceTurning_b1 t x1 x2 s.1 s.2.1 s.2.2) (fun s => Gd X Y 0 s.2.2 [(0, .ref (adr Y t)), (1, .int x1), (2, .int x2), (3, .int s.1), (4, .int s.2.1)] 5 []) h8x ?_ fuel (0, 0, σ) h8
  intro s y7 h7 h5 h6
  obtain ⟨vq1, vq2, σ3⟩ := s
  have h7 : T_reduceTurning_b1 t x1 x2 vq1 vq2 σ3 = some y7 := h7
  unfold T_reduceTurning_b1 at h7
  show Gd X Y 0 σ3 [(0, .ref (adr Y t)), (1, .int x1), (2, .int x2), (3, .int vq1), (4, .int vq2)] 5 []
  refine g_iload hX d_T_reduceTurning_5 4 rfl ?_
  refine g_aload_n hX d_T_reduceTurning_7 0 rfl ?_
  refine g_getR hX (iwT ht) (shTt ht) rfl fl_T_18 d_T_reduceTurning_8 ?_
  refine g_iload_n hX d_T_reduceTurning_11 1 rfl ?_
  refine g_iaload hX (iwA3 ht) (shA3 ht) d_T_reduceTurning_12 h7 (fun vq11 h12 => ?_)
  refine g_icmp_ge hX 124 d_T_reduceTurning_13 (by decide) h12 (fun h13 => ?_) (fun h14 => ?_)
  · refine g_sub (lv2 := [(0, .ref (adr Y t)), (1, .int x1)]) [0, 1] rfl ?_
    cases h13
    exact KX9 σ3 (h6 (.inl σ3) rfl).symm
  · refine g_aload_n hX d_T_reduceTurning_16 0 rfl ?_
    refine g_iload_n hX d_T_reduceTurning_17 1 rfl ?_
    refine g_iload hX d_T_reduceTurning_18 4 rfl ?_
    obtain ⟨vq15, h16, h17⟩ := obind h14
    refine g_callV hX [.int x1, .int vq2] [] mv_T_73 (c_T_part X.2.1 Y t x1 vq2 ht σ3 _ h16) (by decide) (iwT ht) (shTt ht) rfl rfl rfl (Nat.le_of_ble_eq_true rfl) d_T_reduceTurning_20 (fun h18 => ?_)
    show Gd X Y 0 σ3 [(0, .ref (adr Y t)), (1, .int x1), (2, .int x2), (3, .int vq1), (4, .int vq2)] 23 [.int vq15]
    refine g_istoreV hX [(5, .int vq15), (0, .ref (adr Y t)), (1, .int x1), (2, .int x2), (3, .int vq1), (4, .int vq2)] d_T_reduceTurning_23 (by decide) rfl ?_
    refine g_aload_n hX d_T_reduceTurning_25 1 rfl ?_
    refine g_iload hX d_T_reduceTurning_26 0 rfl ?_
    refine g_iload_n hX d_T_reduceTurning_28 3 rfl ?_
    obtain ⟨vq19, h20, h21⟩ := obind h17
    refine g_callV hX [.int vq15, .int x2] [] mv_T_97 (c_T_stateOf X.2.1 Y t vq15 x2 ht σ3 _ h20) (by decide) (iwT ht) (shTt ht) rfl rfl rfl (Nat.le_of_ble_eq_true rfl) d_T_reduceTurning_29 (fun h22 => ?_)
    show Gd X Y 0 σ3 [(5, .int vq15), (0, .ref (adr Y t)), (1, .int x1), (2, .int x2), (3, .int vq1), (4, .int vq2)] 32 [.int vq19]
    refine g_istoreV hX [(6, .int vq19), (5, .int vq15), (0, .ref (adr Y t)), (1, .int x1), (2, .int x2), (3, .int vq1), (4, .int vq2)] d_T_reduceTurning_32 (by decide) rfl ?_
    refine g_iload hX d_T_reduceTurning_34 0 rfl ?_
    obtain ⟨h25x, h23, h24⟩ := obind h21
    have KJ24 : ∀ (vq51 : Int32) (σ52 : Mem) , h25x = .inl (vq51, σ52) → Gd X Y 0 σ52 [(0, .ref (adr Y t)), (1, .int x1), (2, .int x2), (3, .int vq51), (4, .int vq2)] 118 [] := by
      intro vq51 σ52 h25
      subst h25
      dsimp only [Sum.elim_inl] at h24
      have h24 := lt2 h24
      refine g_iinc hX (fun vq67 => [(4, .int vq67), (0, .ref (adr Y t)), (1, .int x1), (2, .int x2), (3, .int vq51)]) d_T_reduceTurning_118 4 rfl rfl (by decide) (fun _ => rfl) h24 (fun vq67 h68 => ?_)
      refine g_goto hX 5 d_T_reduceTurning_121 (by decide) ?_
      refine g_sub (lv2 := [(0, .ref (adr Y t)), (1, .int x1), (2, .int x2), (3, .int vq51), (4, .int vq67)]) [1, 2, 3, 4, 0] rfl ?_
      cases h68
      exact h5 (vq51, vq67, σ52) rfl
    refine g_if_ne hX 58 d_T_reduceTurning_36 (by decide) h23 (fun h26 => ?_) (fun h27 => ?_)
    · refine g_iload_n hX d_T_reduceTurning_58 5 rfl ?_
      refine g_iconst hX 2 d_T_reduceTurning_59 (by decide) ?_
      refine g_icmp_ne hX 65 d_T_reduceTurning_60 (by decide) h26 (fun h28 => ?_) (fun h29 => ?_)
      · refine g_iload hX d_T_reduceTurning_65 0 rfl ?_
        refine g_iconst hX 2 d_T_reduceTurning_67 (by decide) ?_
        refine g_icmp_ne hX 82 d_T_reduceTurning_68 (by decide) h28 (fun h30 => ?_) (fun h31 => ?_)
        · refine g_iload_n hX d_T_reduceTurning_82 5 rfl ?_
          obtain ⟨vq37, h32, h33⟩ := ltex h30
          have KJ33 : okR (some .boolean) (some (.int vq37)) → Gd X Y 0 σ3 [(0, .ref (adr Y t)), (1, .int x1), (2, .int x2), (4, .int vq2), (5, .int vq15)] 91 [.int vq37] := by
            intro hbvq37
            refine g_istoreV hX [(7, .int vq37), (0, .ref (adr Y t)), (1, .int x1), (2, .int x2), (4, .int vq2), (5, .int vq15)] d_T_reduceTurning_91 (by decide) rfl ?_
            refine g_aload_n hX d_T_reduceTurning_93 1 rfl ?_
            refine g_iload hX d_T_reduceTurning_94 5 rfl ?_
            refine g_iload_n hX d_T_reduceTurning_96 3 rfl ?_
            refine g_iload hX d_T_reduceTurning_97 0 rfl ?_
            obtain ⟨⟨vq38, σ39⟩, h40, h41⟩ := obind h33
            have h41 := lt2 h41
            refine g_callV hX [.int vq15, .int x2, .int vq37] [] mv_T_114 (c_T_splitToLine X.2.1 Y t vq15 x2 vq37 ht σ3 _ h40) (by decide) (iwT ht) (shTt ht) rfl rfl rfl (Nat.le_of_ble_eq_true rfl) d_T_reduceTurning_99 (fun h42 => ?_)
            show Gd X Y 0 σ39 [(7, .int vq37), (0, .ref (adr Y t)), (1, .int x1), (2, .int x2), (4, .int vq2), (5, .int vq15)] 102 [.int vq38]
            refine g_if_ne hX 107 d_T_reduceTurning_102 (by decide) h41 (fun h43 => ?_) (fun h44 => ?_)
            · refine g_iload hX d_T_reduceTurning_107 0 rfl ?_
              obtain ⟨vq50, h45, h46⟩ := ltex h43
              have KJ46 : Gd X Y 0 σ39 [(0, .ref (adr Y t)), (1, .int x1), (2, .int x2), (4, .int vq2)] 117 [.int vq50] := by
                refine g_istore_nV hX [(3, .int vq50), (0, .ref (adr Y t)), (1, .int x1), (2, .int x2), (4, .int vq2)] d_T_reduceTurning_117 (by decide) rfl ?_
                refine g_sub (lv2 := [(0, .ref (adr Y t)), (1, .int x1), (2, .int x2), (3, .int vq50), (4, .int vq2)]) [1, 2, 3, 0, 4] rfl ?_
                cases h46
                exact KJ24 _ _ rfl
              refine g_if_eq hX 116 d_T_reduceTurning_109 (by decide) h45 (fun h48 => ?_) (fun h49 => ?_)
              · refine g_iconst hX 2 d_T_reduceTurning_116 (by decide) ?_
                refine g_sub (lv2 := [(0, .ref (adr Y t)), (1, .int x1), (2, .int x2), (4, .int vq2)]) [1, 2, 3, 4] rfl ?_
                cases h48
                exact KJ46
              · refine g_iconst hX 1 d_T_reduceTurning_112 (by decide) ?_
                refine g_goto hX 117 d_T_reduceTurning_113 (by decide) ?_
                refine g_sub (lv2 := [(0, .ref (adr Y t)), (1, .int x1), (2, .int x2), (4, .int vq2)]) [1, 2, 3, 4] rfl ?_
                cases h49
                exact KJ46
            · refine g_iconst hX 0 d_T_reduceTurning_105 (by decide) ?_
              cases h44
              dsimp only [Sum.elim_inr] at h24
              cases h24
              have h10 := h6 (.inr (0, σ39)) rfl
              subst h10
              dsimp only [Sum.elim_inr] at h9
              cases h9
              exact g_zreturn hX hR okB0 d_T_reduceTurning_106
          refine g_if_ne hX 90 d_T_reduceTurning_83 (by decide) h32 (fun h35 => ?_) (fun h36 => ?_)
          · refine g_iconst hX 0 d_T_reduceTurning_90 (by decide) ?_
            refine g_sub (lv2 := [(0, .ref (adr Y t)), (1, .int x1), (2, .int x2), (4, .int vq2), (5, .int vq15)]) [2, 3, 4, 6, 1] rfl ?_
            cases h35
            exact KJ33 okB0
          · refine g_iconst hX 1 d_T_reduceTurning_86 (by decide) ?_
            refine g_goto hX 91 d_T_reduceTurning_87 (by decide) ?_
            refine g_sub (lv2 := [(0, .ref (adr Y t)), (1, .int x1), (2, .int x2), (4, .int vq2), (5, .int vq15)]) [2, 3, 4, 6, 1] rfl ?_
            cases h36
            exact KJ33 okB1
        · refine g_iconst hX 1 d_T_reduceTurning_71 (by decide) ?_
          refine g_istore_nV hX [(3, .int 1), (6, .int vq19), (5, .int vq15), (0, .ref (adr Y t)), (1, .int x1), (2, .int x2), (4, .int vq2)] d_T_reduceTurning_72 (by decide) rfl ?_
          refine g_aload_n hX d_T_reduceTurning_73 3 rfl ?_
          refine g_iload hX d_T_reduceTurning_74 2 rfl ?_
          obtain ⟨σ53, h54, h55⟩ := obind h31
          refine g_callV hX [.int vq15] [] mv_T_122 (c_T_append X.2.1 Y t vq15 ht σ3 _ h54) (by decide) (iwT ht) (shTt ht) rfl rfl rfl (Nat.le_of_ble_eq_true rfl) d_T_reduceTurning_76 (fun h56 => ?_)
          show Gd X Y 0 σ53 [(3, .int 1), (6, .int vq19), (5, .int vq15), (0, .ref (adr Y t)), (1, .int x1), (2, .int x2), (4, .int vq2)] 79 []
          refine g_goto hX 118 d_T_reduceTurning_79 (by decide) ?_
          refine g_sub (lv2 := [(0, .ref (adr Y t)), (1, .int x1), (2, .int x2), (3, .int 1), (4, .int vq2)]) [3, 4, 5, 0, 6] rfl ?_
          cases h55
          exact KJ24 _ _ rfl
      · refine g_iconst hX 0 d_T_reduceTurning_63 (by decide) ?_
        cases h29
        dsimp only [Sum.elim_inr] at h24
        cases h24
        have h10 := h6 (.inr (0, σ3)) rfl
        subst h10
        dsimp only [Sum.elim_inr] at h9
        cases h9
        exact g_zreturn hX hR okB0 d_T_reduceTurning_64
    · refine g_iload_n hX d_T_reduceTurning_39 5 rfl ?_
      obtain ⟨vq62, h57, h58⟩ := ltex h27
      have KJ58 : Gd X Y 0 σ3 [(0, .ref (adr Y t)), (1, .int x1), (2, .int x2), (4, .int vq2), (5, .int vq15)] 48 [.int vq62] := by
        refine g_istore_nV hX [(3, .int vq62), (0, .ref (adr Y t)), (1, .int x1), (2, .int x2), (4, .int vq2), (5, .int vq15)] d_T_reduceTurning_48 (by decide) rfl ?_
        refine g_aload_n hX d_T_reduceTurning_49 1 rfl ?_
        refine g_iload hX d_T_reduceTurning_50 5 rfl ?_
        obtain ⟨σ63, h64, h65⟩ := obind h58
        refine g_callV hX [.int vq15] [] mv_T_122 (c_T_append X.2.1 Y t vq15 ht σ3 _ h64) (by decide) (iwT ht) (shTt ht) rfl rfl rfl (Nat.le_of_ble_eq_true rfl) d_T_reduceTurning_52 (fun h66 => ?_)
        show Gd X Y 0 σ63 [(3, .int vq62), (0, .ref (adr Y t)), (1, .int x1), (2, .int x2), (4, .int vq2), (5, .int vq15)] 55 []
        refine g_goto hX 118 d_T_reduceTurning_55 (by decide) ?_
        refine g_sub (lv2 := [(0, .ref (adr Y t)), (1, .int x1), (2, .int x2), (3, .int vq62), (4, .int vq2)]) [1, 2, 3, 0, 4] rfl ?_
        cases h65
        exact KJ24 _ _ rfl
      refine g_if_ne hX 47 d_T_reduceTurning_40 (by decide) h57 (fun h60 => ?_) (fun h61 => ?_)
      · refine g_iconst hX 2 d_T_reduceTurning_47 (by decide) ?_
        refine g_sub (lv2 := [(0, .ref (adr Y t)), (1, .int x1), (2, .int x2), (4, .int vq2), (5, .int vq15)]) [2, 3, 4, 6, 1] rfl ?_
        cases h60
        exact KJ58
      · refine g_iconst hX 0 d_T_reduceTurning_43 (by decide) ?_
        refine g_goto hX 48 d_T_reduceTurning_44 (by decide) ?_
        refine g_sub (lv2 := [(0, .ref (adr Y t)), (1, .int x1), (2, .int x2), (4, .int vq2), (5, .int vq15)]) [2, 3, 4, 6, 1] rfl ?_
        cases h61
        exact KJ58
noncomputable def T_reduce (t : Nat) (x1 : Int32) (σ : Mem) : Option (Int32 × Mem) := (rd σ (t + 2) (σ t 4)).bind (fun vq1 => lt (x1 &&& vq1) (fun vq3 => if 2 ≤ (J_bitCount vq3) then (T_lowestWith t vq3 σ).bind (fun vq8 => (T_stateOf t vq8 vq3 σ).bind (fun vq12 => if vq12 = 2 then some (1, σ) else lt (mput σ t 7 0) (fun σ18 => lt (mput σ18 t 11 0) (fun σ20 => (rd σ20 (t + 1) vq8).bind (fun vq22 => ((if vq22 = 0 then (T_reduceFree t vq8 vq3 σ20).bind (fun q => lt q.1 (fun vq36 => lt q.2 (fun σ37 => some (vq36, σ37)))) else (T_reduceTurning t vq8 vq3 σ20).bind (fun q => lt q.1 (fun vq29 => lt q.2 (fun σ30 => some (vq29, σ30)))) : Option (Int32 × Mem))).bind (fun q => lt q.1 (fun vq34 => lt q.2 (fun σ35 => (T_giveBackSplit t σ35).bind (fun σ41 => some (vq34, σ41)))))))))) else some (1, σ)))
set_option maxHeartbeats 4000000 in
set_option maxRecDepth 100000 in
theorem c_T_reduce (l : Launch) (Y : Wx) (t : Nat) (x1 : Int32) (ht : isT t) (σ : Mem) (o : Int32 × Mem) (hf : T_reduce t x1 σ = some o) : Ct l Y 0 y_T_reduce b_T_reduce 5 (some .boolean) 4 [.ref (adr Y t), .int x1] σ (some (.int o.1)) o.2 := by
  unfold T_reduce at hf
  refine ct_of (by decide) (Nat.le_of_ble_eq_true rfl) rfl (fun X hXl hX hR => ?_)
  subst hXl
  have hX : Fx X Y 0 b_T_reduce 5 R_T 4 := hX
  refine g_iload_n hX d_T_reduce_0 1 rfl ?_
  refine g_aload_n hX d_T_reduce_1 0 rfl ?_
  refine g_getR hX (iwT ht) (shTt ht) rfl fl_T_15 d_T_reduce_2 ?_
  refine g_aload_n hX d_T_reduce_5 0 rfl ?_
  refine g_getI hX (iwT ht) (shTt ht) rfl fl_T_24.f d_T_reduce_6 ?_
  refine g_iaload hX (iwA2 ht) (shA2 ht) d_T_reduce_9 hf (fun vq1 h2 => ?_)
  refine g_iand hX d_T_reduce_10 ?_
  refine g_istore_n hX (fun vq3 => [(2, .int vq3), (0, .ref (adr Y t)), (1, .int x1)]) d_T_reduce_11 (by decide) (fun _ => rfl) h2 (fun vq3 h4 => ?_)
  refine g_iload_n hX d_T_reduce_12 0 rfl ?_
  refine g_callS hX [.int vq3] [] mv_T_89 (c_J_bitCount X.2.1 Y vq3 σ _ rfl) (by decide) rfl rfl (Nat.le_of_ble_eq_true rfl) d_T_reduce_13 (fun h5 => ?_)
  show Gd X Y 0 σ [(2, .int vq3), (0, .ref (adr Y t)), (1, .int x1)] 16 [.int (J_bitCount vq3)]
  refine g_iconst hX 2 d_T_reduce_16 (by decide) ?_
  refine g_icmp_ge hX 22 d_T_reduce_17 (by decide) h4 (fun h6 => ?_) (fun h7 => ?_)
  · refine g_aload_n hX d_T_reduce_22 1 rfl ?_
    refine g_iload_n hX d_T_reduce_23 0 rfl ?_
    obtain ⟨vq8, h9, h10⟩ := obind h6
    refine g_callV hX [.int vq3] [] mv_T_94 (c_T_lowestWith X.2.1 Y t vq3 ht σ _ h9) (by decide) (iwT ht) (shTt ht) rfl rfl rfl (Nat.le_of_ble_eq_true rfl) d_T_reduce_24 (fun h11 => ?_)
    show Gd X Y 0 σ [(2, .int vq3), (0, .ref (adr Y t)), (1, .int x1)] 27 [.int vq8]
    refine g_istore_nV hX [(3, .int vq8), (2, .int vq3), (0, .ref (adr Y t)), (1, .int x1)] d_T_reduce_27 (by decide) rfl ?_
    refine g_aload_n hX d_T_reduce_28 2 rfl ?_
    refine g_iload_n hX d_T_reduce_29 0 rfl ?_
    refine g_iload_n hX d_T_reduce_30 1 rfl ?_
    obtain ⟨vq12, h13, h14⟩ := obind h10
    refine g_callV hX [.int vq8, .int vq3] [] mv_T_97 (c_T_stateOf X.2.1 Y t vq8 vq3 ht σ _ h13) (by decide) (iwT ht) (shTt ht) rfl rfl rfl (Nat.le_of_ble_eq_true rfl) d_T_reduce_31 (fun h15 => ?_)
    show Gd X Y 0 σ [(3, .int vq8), (2, .int vq3), (0, .ref (adr Y t)), (1, .int x1)] 34 [.int vq12]
    refine g_iconst hX 2 d_T_reduce_34 (by decide) ?_
    refine g_icmp_ne hX 40 d_T_reduce_35 (by decide) h14 (fun h16 => ?_) (fun h17 => ?_)
    · refine g_aload_n hX d_T_reduce_40 2 rfl ?_
      refine g_iconst hX 0 d_T_reduce_41 (by decide) ?_
      refine g_putI hX (iwT ht) (shTt ht) rfl fl_T_34 d_T_reduce_42 h16 (fun σ18 h19 => ?_)
      refine g_aload_n hX d_T_reduce_45 2 rfl ?_
      refine g_iconst hX 0 d_T_reduce_46 (by decide) ?_
      refine g_putI hX (iwT ht) (shTt ht) rfl fl_T_46 d_T_reduce_47 h19 (fun σ20 h21 => ?_)
      refine g_aload_n hX d_T_reduce_50 2 rfl ?_
      refine g_getR hX (iwT ht) (shTt ht) rfl fl_T_11 d_T_reduce_51 ?_
      refine g_iload_n hX d_T_reduce_54 0 rfl ?_
      refine g_iaload hX (iwA1 ht) (shA1 ht) d_T_reduce_55 h21 (fun vq22 h23 => ?_)
      obtain ⟨⟨vq34, σ35⟩, h24, h25⟩ := obind h23
      have h25 := lt2 h25
      have KJ25 : okR (some .boolean) (some (.int vq34)) → Gd X Y 0 σ35 [(0, .ref (adr Y t))] 74 [.int vq34] := by
        intro hbvq34
        refine g_istoreV hX [(4, .int vq34), (0, .ref (adr Y t))] d_T_reduce_74 (by decide) rfl ?_
        refine g_aload_n hX d_T_reduce_76 1 rfl ?_
        obtain ⟨σ41, h42, h43⟩ := obind h25
        refine g_callV hX [] [] mv_T_107 (c_T_giveBackSplit X.2.1 Y t ht σ35 _ h42) (by decide) (iwT ht) (shTt ht) rfl rfl rfl (Nat.le_of_ble_eq_true rfl) d_T_reduce_77 (fun h44 => ?_)
        show Gd X Y 0 σ41 [(4, .int vq34), (0, .ref (adr Y t))] 80 []
        refine g_iload hX d_T_reduce_80 0 rfl ?_
        cases h43
        exact g_zreturn hX hR hbvq34 d_T_reduce_82
      refine g_if_ne hX 68 d_T_reduce_56 (by decide) h24 (fun h27 => ?_) (fun h28 => ?_)
      · refine g_aload_n hX d_T_reduce_68 2 rfl ?_
        refine g_iload_n hX d_T_reduce_69 0 rfl ?_
        refine g_iload_n hX d_T_reduce_70 1 rfl ?_
        obtain ⟨⟨vq29, σ30⟩, h31, h32⟩ := obind h27
        have h32 := lt2 h32
        refine g_callV hX [.int vq8, .int vq3] [] mv_T_104 (c_T_reduceTurning X.2.1 Y t vq8 vq3 ht σ20 _ h31) (by decide) (iwT ht) (shTt ht) rfl rfl rfl (Nat.le_of_ble_eq_true rfl) d_T_reduce_71 (fun h33 => ?_)
        show Gd X Y 0 σ30 [(3, .int vq8), (2, .int vq3), (0, .ref (adr Y t)), (1, .int x1)] 74 [.int vq29]
        refine g_sub (lv2 := [(0, .ref (adr Y t))]) [2] rfl ?_
        cases h32
        exact KJ25 h33
      · refine g_aload_n hX d_T_reduce_59 2 rfl ?_
        refine g_iload_n hX d_T_reduce_60 0 rfl ?_
        refine g_iload_n hX d_T_reduce_61 1 rfl ?_
        obtain ⟨⟨vq36, σ37⟩, h38, h39⟩ := obind h28
        have h39 := lt2 h39
        refine g_callV hX [.int vq8, .int vq3] [] mv_T_100 (c_T_reduceFree X.2.1 Y t vq8 vq3 ht σ20 _ h38) (by decide) (iwT ht) (shTt ht) rfl rfl rfl (Nat.le_of_ble_eq_true rfl) d_T_reduce_62 (fun h40 => ?_)
        show Gd X Y 0 σ37 [(3, .int vq8), (2, .int vq3), (0, .ref (adr Y t)), (1, .int x1)] 65 [.int vq36]
        refine g_goto hX 74 d_T_reduce_65 (by decide) ?_
        refine g_sub (lv2 := [(0, .ref (adr Y t))]) [2] rfl ?_
        cases h39
        exact KJ25 h40
    · refine g_iconst hX 1 d_T_reduce_38 (by decide) ?_
      cases h17
      exact g_zreturn hX hR okB1 d_T_reduce_39
  · refine g_iconst hX 1 d_T_reduce_20 (by decide) ?_
    cases h7
    exact g_zreturn hX hR okB1 d_T_reduce_21
noncomputable def T_nodeCount (t : Nat) (σ : Mem) : Int32 := (σ t 5)
set_option maxHeartbeats 4000000 in
set_option maxRecDepth 100000 in
theorem c_T_nodeCount (l : Launch) (Y : Wx) (t : Nat) (ht : isT t) (σ : Mem) (o : Int32) (hf : T_nodeCount t σ = o) : Ct l Y 0 y_T_nodeCount b_T_nodeCount 1 (some .int) 0 [.ref (adr Y t)] σ (some (.int o)) σ := by
  unfold T_nodeCount at hf
  refine ct_of (by decide) (Nat.le_of_ble_eq_true rfl) rfl (fun X hXl hX hR => ?_)
  subst hXl
  have hX : Fx X Y 0 b_T_nodeCount 1 R_T 0 := hX
  refine g_aload_n hX d_T_nodeCount_0 0 rfl ?_
  refine g_getI hX (iwT ht) (shTt ht) rfl fl_T_28.f d_T_nodeCount_1 ?_
  cases hf
  exact g_ireturn hX hR d_T_nodeCount_4
noncomputable def T_isTurning (t : Nat) (x1 : Int32) (σ : Mem) : Option (Int32) := ((if x1 < 0 then some false else if (σ t 5) ≤ x1 then some false else (rd σ (t + 1) (8 + x1)).bind (fun vq8 => if vq8 = 1 then some true else some false) : Option (Bool))).bind (fun bq1 => lt (if bq1 = true then 1 else 0 : Int32) (fun vq17 => some vq17))
set_option maxHeartbeats 4000000 in
set_option maxRecDepth 100000 in
theorem c_T_isTurning (l : Launch) (Y : Wx) (t : Nat) (x1 : Int32) (ht : isT t) (σ : Mem) (o : Int32) (hf : T_isTurning t x1 σ = some o) : Ct l Y 0 y_T_isTurning b_T_isTurning 2 (some .boolean) 0 [.ref (adr Y t), .int x1] σ (some (.int o)) σ := by
  unfold T_isTurning at hf
  refine ct_of (by decide) (Nat.le_of_ble_eq_true rfl) rfl (fun X hXl hX hR => ?_)
  subst hXl
  have hX : Fx X Y 0 b_T_isTurning 2 R_T 0 := hX
  refine g_iload_n hX d_T_isTurning_0 1 rfl ?_
  obtain ⟨bq1, h2, h3⟩ := obind hf
  obtain ⟨vq17, h12, h13⟩ := ltex h3
  have KJ13 : okR (some .boolean) (some (.int vq17)) → Gd X Y 0 σ [] 30 [.int vq17] := by
    intro hbvq17
    cases h13
    exact g_zreturn hX hR hbvq17 d_T_isTurning_30
  have Kbq1t : bq1 = true → Gd X Y 0 σ [(0, .ref (adr Y t)), (1, .int x1)] 25 [] := by
    intro h18
    have h15 := (if_pos h18).symm.trans h12
    refine g_iconst hX 1 d_T_isTurning_25 (by decide) ?_
    refine g_goto hX 30 d_T_isTurning_26 (by decide) ?_
    refine g_sub (lv2 := []) [] rfl ?_
    cases h15
    exact KJ13 okB1
  have Kbq1f : ¬ bq1 = true → Gd X Y 0 σ [(0, .ref (adr Y t)), (1, .int x1)] 29 [] := by
    intro h18
    have h16 := (if_neg h18).symm.trans h12
    refine g_iconst hX 0 d_T_isTurning_29 (by decide) ?_
    refine g_sub (lv2 := []) [] rfl ?_
    cases h16
    exact KJ13 okB0
  refine g_if_lt hX 29 d_T_isTurning_1 (by decide) h2 (fun h4 => ?_) (fun h5 => ?_)
  · cases h4
    exact Kbq1f (by decide)
  · refine g_iload_n hX d_T_isTurning_4 1 rfl ?_
    refine g_aload_n hX d_T_isTurning_5 0 rfl ?_
    refine g_getI hX (iwT ht) (shTt ht) rfl fl_T_28.f d_T_isTurning_6 ?_
    refine g_icmp_ge hX 29 d_T_isTurning_9 (by decide) h5 (fun h6 => ?_) (fun h7 => ?_)
    · cases h6
      exact Kbq1f (by decide)
    · refine g_aload_n hX d_T_isTurning_12 0 rfl ?_
      refine g_getR hX (iwT ht) (shTt ht) rfl fl_T_11 d_T_isTurning_13 ?_
      refine g_bipush hX 8 d_T_isTurning_16 (by decide) ?_
      refine g_iload_n hX d_T_isTurning_18 1 rfl ?_
      refine g_iadd hX d_T_isTurning_19 ?_
      refine g_iaload hX (iwA1 ht) (shA1 ht) d_T_isTurning_20 h7 (fun vq8 h9 => ?_)
      refine g_iconst hX 1 d_T_isTurning_21 (by decide) ?_
      refine g_icmp_ne hX 29 d_T_isTurning_22 (by decide) h9 (fun h10 => ?_) (fun h11 => ?_)
      · cases h10
        exact Kbq1f (by decide)
      · cases h11
        exact Kbq1t rfl
noncomputable def T_partCount (t : Nat) (x1 : Int32) (σ : Mem) : Option (Int32) := lt (if x1 < 0 then false else if (σ t 5) ≤ x1 then false else true : Bool) (fun bq1 => ((if bq1 = true then (rd σ (t + 3) (8 + x1)).bind (fun vq13 => some vq13) else some 0 : Option (Int32))).bind (fun vq15 => some vq15))
set_option maxHeartbeats 4000000 in
set_option maxRecDepth 100000 in
theorem c_T_partCount (l : Launch) (Y : Wx) (t : Nat) (x1 : Int32) (ht : isT t) (σ : Mem) (o : Int32) (hf : T_partCount t x1 σ = some o) : Ct l Y 0 y_T_partCount b_T_partCount 2 (some .int) 0 [.ref (adr Y t), .int x1] σ (some (.int o)) σ := by
  unfold T_partCount at hf
  refine ct_of (by decide) (Nat.le_of_ble_eq_true rfl) rfl (fun X hXl hX hR => ?_)
  subst hXl
  have hX : Fx X Y 0 b_T_partCount 2 R_T 0 := hX
  refine g_iload_n hX d_T_partCount_0 1 rfl ?_
  obtain ⟨bq1, h2, h3⟩ := ltex hf
  obtain ⟨vq15, h8, h9⟩ := obind h3
  have KJ9 : Gd X Y 0 σ [] 25 [.int vq15] := by
    cases h9
    exact g_ireturn hX hR d_T_partCount_25
  have Kbq1t : bq1 = true → Gd X Y 0 σ [(0, .ref (adr Y t)), (1, .int x1)] 12 [] := by
    intro h16
    have h11 := (if_pos h16).symm.trans h8
    refine g_aload_n hX d_T_partCount_12 0 rfl ?_
    refine g_getR hX (iwT ht) (shTt ht) rfl fl_T_18 d_T_partCount_13 ?_
    refine g_bipush hX 8 d_T_partCount_16 (by decide) ?_
    refine g_iload_n hX d_T_partCount_18 1 rfl ?_
    refine g_iadd hX d_T_partCount_19 ?_
    refine g_iaload hX (iwA3 ht) (shA3 ht) d_T_partCount_20 h11 (fun vq13 h14 => ?_)
    refine g_goto hX 25 d_T_partCount_21 (by decide) ?_
    refine g_sub (lv2 := []) [] rfl ?_
    cases h14
    exact KJ9
  have Kbq1f : ¬ bq1 = true → Gd X Y 0 σ [(0, .ref (adr Y t)), (1, .int x1)] 24 [] := by
    intro h16
    have h12 := (if_neg h16).symm.trans h8
    refine g_iconst hX 0 d_T_partCount_24 (by decide) ?_
    refine g_sub (lv2 := []) [] rfl ?_
    cases h12
    exact KJ9
  refine g_if_lt hX 24 d_T_partCount_1 (by decide) h2 (fun h4 => ?_) (fun h5 => ?_)
  · cases h4
    exact Kbq1f (by decide)
  · refine g_iload_n hX d_T_partCount_4 1 rfl ?_
    refine g_aload_n hX d_T_partCount_5 0 rfl ?_
    refine g_getI hX (iwT ht) (shTt ht) rfl fl_T_28.f d_T_partCount_6 ?_
    refine g_icmp_ge hX 24 d_T_partCount_9 (by decide) h5 (fun h6 => ?_) (fun h7 => ?_)
    · cases h6
      exact Kbq1f (by decide)
    · cases h7
      exact Kbq1t rfl
noncomputable def T_thingsOf (t : Nat) (x1 : Int32) (σ : Mem) : Option (Int32) := lt (if x1 < 0 then false else if (σ t 5) ≤ x1 then false else true : Bool) (fun bq1 => ((if bq1 = true then (rd σ (t + 2) (8 + x1)).bind (fun vq13 => some vq13) else some 0 : Option (Int32))).bind (fun vq15 => some vq15))
set_option maxHeartbeats 4000000 in
set_option maxRecDepth 100000 in
theorem c_T_thingsOf (l : Launch) (Y : Wx) (t : Nat) (x1 : Int32) (ht : isT t) (σ : Mem) (o : Int32) (hf : T_thingsOf t x1 σ = some o) : Ct l Y 0 y_T_thingsOf b_T_thingsOf 2 (some .int) 0 [.ref (adr Y t), .int x1] σ (some (.int o)) σ := by
  unfold T_thingsOf at hf
  refine ct_of (by decide) (Nat.le_of_ble_eq_true rfl) rfl (fun X hXl hX hR => ?_)
  subst hXl
  have hX : Fx X Y 0 b_T_thingsOf 2 R_T 0 := hX
  refine g_iload_n hX d_T_thingsOf_0 1 rfl ?_
  obtain ⟨bq1, h2, h3⟩ := ltex hf
  obtain ⟨vq15, h8, h9⟩ := obind h3
  have KJ9 : Gd X Y 0 σ [] 25 [.int vq15] := by
    cases h9
    exact g_ireturn hX hR d_T_thingsOf_25
  have Kbq1t : bq1 = true → Gd X Y 0 σ [(0, .ref (adr Y t)), (1, .int x1)] 12 [] := by
    intro h16
    have h11 := (if_pos h16).symm.trans h8
    refine g_aload_n hX d_T_thingsOf_12 0 rfl ?_
    refine g_getR hX (iwT ht) (shTt ht) rfl fl_T_15 d_T_thingsOf_13 ?_
    refine g_bipush hX 8 d_T_thingsOf_16 (by decide) ?_
    refine g_iload_n hX d_T_thingsOf_18 1 rfl ?_
    refine g_iadd hX d_T_thingsOf_19 ?_
    refine g_iaload hX (iwA2 ht) (shA2 ht) d_T_thingsOf_20 h11 (fun vq13 h14 => ?_)
    refine g_goto hX 25 d_T_thingsOf_21 (by decide) ?_
    refine g_sub (lv2 := []) [] rfl ?_
    cases h14
    exact KJ9
  have Kbq1f : ¬ bq1 = true → Gd X Y 0 σ [(0, .ref (adr Y t)), (1, .int x1)] 24 [] := by
    intro h16
    have h12 := (if_neg h16).symm.trans h8
    refine g_iconst hX 0 d_T_thingsOf_24 (by decide) ?_
    refine g_sub (lv2 := []) [] rfl ?_
    cases h12
    exact KJ9
  refine g_if_lt hX 24 d_T_thingsOf_1 (by decide) h2 (fun h4 => ?_) (fun h5 => ?_)
  · cases h4
    exact Kbq1f (by decide)
  · refine g_iload_n hX d_T_thingsOf_4 1 rfl ?_
    refine g_aload_n hX d_T_thingsOf_5 0 rfl ?_
    refine g_getI hX (iwT ht) (shTt ht) rfl fl_T_28.f d_T_thingsOf_6 ?_
    refine g_icmp_ge hX 24 d_T_thingsOf_9 (by decide) h5 (fun h6 => ?_) (fun h7 => ?_)
    · cases h6
      exact Kbq1f (by decide)
    · cases h7
      exact Kbq1t rfl
noncomputable def T_turningCount_b1 (t : Nat) (σ : Mem) (vq1 : Int32) (vq2 : Int32) : Option ((Int32 × Int32) ⊕ (Int32)) := if (σ t 5) ≤ vq2 then some (.inr vq1) else (rd σ (t + 1) (8 + vq2)).bind (fun vq12 => lt (vq1 + vq12) (fun vq14 => lt (vq2 + 1) (fun vq16 => some (.inl (vq14, vq16)))))
noncomputable def T_turningCount (t : Nat) (σ : Mem) : Option (Int32) := (lp (fun s => T_turningCount_b1 t σ s.1 s.2) fuel (0, 0)).bind (fun vq3 => some vq3)
set_option maxHeartbeats 4000000 in
set_option maxRecDepth 100000 in
theorem c_T_turningCount (l : Launch) (Y : Wx) (t : Nat) (ht : isT t) (σ : Mem) (o : Int32) (hf : T_turningCount t σ = some o) : Ct l Y 0 y_T_turningCount b_T_turningCount 3 (some .int) 0 [.ref (adr Y t)] σ (some (.int o)) σ := by
  unfold T_turningCount at hf
  refine ct_of (by decide) (Nat.le_of_ble_eq_true rfl) rfl (fun X hXl hX hR => ?_)
  subst hXl
  have hX : Fx X Y 0 b_T_turningCount 3 R_T 0 := hX
  refine g_iconst hX 0 d_T_turningCount_0 (by decide) ?_
  refine g_istore_nV hX [(1, .int 0), (0, .ref (adr Y t))] d_T_turningCount_1 (by decide) rfl ?_
  refine g_iconst hX 0 d_T_turningCount_2 (by decide) ?_
  refine g_istore_nV hX [(2, .int 0), (1, .int 0), (0, .ref (adr Y t))] d_T_turningCount_3 (by decide) rfl ?_
  obtain ⟨vq3, h7, h8⟩ := obind hf
  have KX8 : Gd X Y 0 σ [(1, .int vq3)] 30 [] := by
    refine g_iload_n hX d_T_turningCount_30 0 rfl ?_
    cases h8
    exact g_ireturn hX hR d_T_turningCount_31
  refine g_sub (lv2 := [(0, .ref (adr Y t)), (1, .int 0), (2, .int 0)]) [2, 1, 0] rfl ?_
  refine g_loop (fun s => T_turningCount_b1 t σ s.1 s.2) (fun s => Gd X Y 0 σ [(0, .ref (adr Y t)), (1, .int s.1), (2, .int s.2)] 4 []) vq3 ?_ fuel (0, 0) h7
  intro s y6 h6 h4 h5
  obtain ⟨vq1, vq2⟩ := s
  have h6 : T_turningCount_b1 t σ vq1 vq2 = some y6 := h6
  unfold T_turningCount_b1 at h6
  show Gd X Y 0 σ [(0, .ref (adr Y t)), (1, .int vq1), (2, .int vq2)] 4 []
  refine g_iload_n hX d_T_turningCount_4 2 rfl ?_
  refine g_aload_n hX d_T_turningCount_5 0 rfl ?_
  refine g_getI hX (iwT ht) (shTt ht) rfl fl_T_28.f d_T_turningCount_6 ?_
  refine g_icmp_ge hX 30 d_T_turningCount_9 (by decide) h6 (fun h10 => ?_) (fun h11 => ?_)
  · refine g_sub (lv2 := [(1, .int vq1)]) [1] rfl ?_
    cases h10
    have h9 := h5 vq1 rfl
    cases h9
    exact KX8
  · refine g_iload_n hX d_T_turningCount_12 1 rfl ?_
    refine g_aload_n hX d_T_turningCount_13 0 rfl ?_
    refine g_getR hX (iwT ht) (shTt ht) rfl fl_T_11 d_T_turningCount_14 ?_
    refine g_bipush hX 8 d_T_turningCount_17 (by decide) ?_
    refine g_iload_n hX d_T_turningCount_19 2 rfl ?_
    refine g_iadd hX d_T_turningCount_20 ?_
    refine g_iaload hX (iwA1 ht) (shA1 ht) d_T_turningCount_21 h11 (fun vq12 h13 => ?_)
    refine g_iadd hX d_T_turningCount_22 ?_
    refine g_istore_n hX (fun vq14 => [(1, .int vq14), (0, .ref (adr Y t)), (2, .int vq2)]) d_T_turningCount_23 (by decide) (fun _ => rfl) h13 (fun vq14 h15 => ?_)
    refine g_iinc hX (fun vq16 => [(2, .int vq16), (1, .int vq14), (0, .ref (adr Y t))]) d_T_turningCount_24 2 rfl rfl (by decide) (fun _ => rfl) h15 (fun vq16 h17 => ?_)
    refine g_goto hX 4 d_T_turningCount_27 (by decide) ?_
    refine g_sub (lv2 := [(0, .ref (adr Y t)), (1, .int vq14), (2, .int vq16)]) [2, 1, 0] rfl ?_
    cases h17
    exact h4 (vq14, vq16) rfl
noncomputable def O_factorial (x0 : Int32) (σ : Mem) : Option (Int32) := lt (if x0 < 0 then true else if x0 < 9 then false else true : Bool) (fun bq1 => ((if bq1 = true then some 1 else (rds 0 x0).bind (fun vq14 => some vq14) : Option (Int32))).bind (fun vq13 => some vq13))
set_option maxHeartbeats 4000000 in
set_option maxRecDepth 100000 in
theorem c_O_factorial (l : Launch) (Y : Wx) (x0 : Int32)  (σ : Mem) (o : Int32) (hf : O_factorial x0 σ = some o) : Ct l Y 0 y_O_factorial b_O_factorial 1 (some .int) 0 [.int x0] σ (some (.int o)) σ := by
  unfold O_factorial at hf
  refine ct_of (by decide) (Nat.le_of_ble_eq_true rfl) rfl (fun X hXl hX hR => ?_)
  subst hXl
  have hX : Fx X Y 0 b_O_factorial 1 R_O 0 := hX
  refine g_iload_n hX d_O_factorial_0 0 rfl ?_
  obtain ⟨bq1, h2, h3⟩ := ltex hf
  obtain ⟨vq13, h8, h9⟩ := obind h3
  have KJ9 : Gd X Y 0 σ [] 21 [.int vq13] := by
    cases h9
    exact g_ireturn hX hR d_O_factorial_21
  have Kbq1t : bq1 = true → Gd X Y 0 σ [(0, .int x0)] 12 [] := by
    intro h16
    have h11 := (if_pos h16).symm.trans h8
    refine g_iconst hX 1 d_O_factorial_12 (by decide) ?_
    refine g_goto hX 21 d_O_factorial_13 (by decide) ?_
    refine g_sub (lv2 := []) [] rfl ?_
    cases h11
    exact KJ9
  have Kbq1f : ¬ bq1 = true → Gd X Y 0 σ [(0, .int x0)] 16 [] := by
    intro h16
    have h12 := (if_neg h16).symm.trans h8
    refine g_getst hX (k := 0) (by decide) q_227 d_O_factorial_16 ?_
    refine g_iload_n hX d_O_factorial_19 0 rfl ?_
    refine g_ialoadS hX (by decide) d_O_factorial_20 h12 (fun vq14 h15 => ?_)
    refine g_sub (lv2 := []) [] rfl ?_
    cases h15
    exact KJ9
  refine g_if_lt hX 12 d_O_factorial_1 (by decide) h2 (fun h4 => ?_) (fun h5 => ?_)
  · cases h4
    exact Kbq1t rfl
  · refine g_iload_n hX d_O_factorial_4 0 rfl ?_
    refine g_getst hX (k := 0) (by decide) q_227 d_O_factorial_5 ?_
    refine g_alenS hX (v := 9) (by decide) (by decide) d_O_factorial_8 ?_
    refine g_icmp_lt hX 16 d_O_factorial_9 (by decide) h5 (fun h6 => ?_) (fun h7 => ?_)
    · cases h6
      exact Kbq1f (by decide)
    · cases h7
      exact Kbq1t rfl
noncomputable def T_ways (t : Nat) (x1 : Int32) (σ : Mem) : Option (Int32) := (rd σ (t + 1) x1).bind (fun vq1 => ((if vq1 = 0 then (rd σ (t + 3) x1).bind (fun vq9 => (O_factorial vq9 σ).bind (fun vq11 => some vq11)) else some 2 : Option (Int32))).bind (fun vq8 => some vq8))
set_option maxHeartbeats 4000000 in
set_option maxRecDepth 100000 in
theorem c_T_ways (l : Launch) (Y : Wx) (t : Nat) (x1 : Int32) (ht : isT t) (σ : Mem) (o : Int32) (hf : T_ways t x1 σ = some o) : Ct l Y 0 y_T_ways b_T_ways 2 (some .int) 1 [.ref (adr Y t), .int x1] σ (some (.int o)) σ := by
  unfold T_ways at hf
  refine ct_of (by decide) (Nat.le_of_ble_eq_true rfl) rfl (fun X hXl hX hR => ?_)
  subst hXl
  have hX : Fx X Y 0 b_T_ways 2 R_T 1 := hX
  refine g_aload_n hX d_T_ways_0 0 rfl ?_
  refine g_getR hX (iwT ht) (shTt ht) rfl fl_T_11 d_T_ways_1 ?_
  refine g_iload_n hX d_T_ways_4 1 rfl ?_
  refine g_iaload hX (iwA1 ht) (shA1 ht) d_T_ways_5 hf (fun vq1 h2 => ?_)
  obtain ⟨vq8, h3, h4⟩ := obind h2
  have KJ4 : Gd X Y 0 σ [] 22 [.int vq8] := by
    cases h4
    exact g_ireturn hX hR d_T_ways_22
  refine g_if_ne hX 21 d_T_ways_6 (by decide) h3 (fun h6 => ?_) (fun h7 => ?_)
  · refine g_iconst hX 2 d_T_ways_21 (by decide) ?_
    refine g_sub (lv2 := []) [] rfl ?_
    cases h6
    exact KJ4
  · refine g_aload_n hX d_T_ways_9 0 rfl ?_
    refine g_getR hX (iwT ht) (shTt ht) rfl fl_T_18 d_T_ways_10 ?_
    refine g_iload_n hX d_T_ways_13 1 rfl ?_
    refine g_iaload hX (iwA3 ht) (shA3 ht) d_T_ways_14 h7 (fun vq9 h10 => ?_)
    obtain ⟨vq11, h12, h13⟩ := obind h10
    refine g_callF hX [.int vq9] [] q_225 q_1 q_226 (c_O_factorial X.2.1 Y vq9 σ _ h12) (by decide) rfl rfl (Nat.le_of_ble_eq_true rfl) d_T_ways_15 (fun h14 => ?_)
    show Gd X Y 0 σ [(0, .ref (adr Y t)), (1, .int x1)] 18 [.int vq11]
    refine g_goto hX 22 d_T_ways_18 (by decide) ?_
    refine g_sub (lv2 := []) [] rfl ?_
    cases h13
    exact KJ4
noncomputable def T_rowCount_b1 (t : Nat) (σ : Mem) (vq3 : Int64) (vq4 : Int32) : Option ((Int64 × Int32) ⊕ (Int64)) := if 24 ≤ vq4 then some (.inr vq3) else (rd σ (t + 3) vq4).bind (fun vq14 => ((if vq14 ≤ 0 then some vq3 else (T_ways t vq4 σ).bind (fun vq22 => lt (vq3 * (vq22.toInt64)) (fun vq26 => some vq26)) : Option (Int64))).bind (fun vq21 => lt (vq4 + 1) (fun vq28 => some (.inl (vq21, vq28)))))
noncomputable def T_rowCount (t : Nat) (σ : Mem) : Option (Int64) := lt 1 (fun vq1 => (lp (fun s => T_rowCount_b1 t σ s.1 s.2) fuel (vq1, 8)).bind (fun vq5 => some vq5))
set_option maxHeartbeats 4000000 in
set_option maxRecDepth 100000 in
theorem c_T_rowCount (l : Launch) (Y : Wx) (t : Nat) (ht : isT t) (σ : Mem) (o : Int64) (hf : T_rowCount t σ = some o) : Ct l Y 0 y_T_rowCount b_T_rowCount 4 (some .long) 2 [.ref (adr Y t)] σ (some (.long o)) σ := by
  unfold T_rowCount at hf
  refine ct_of (by decide) (Nat.le_of_ble_eq_true rfl) rfl (fun X hXl hX hR => ?_)
  subst hXl
  have hX : Fx X Y 0 b_T_rowCount 4 R_T 2 := hX
  refine g_lconst hX 1 d_T_rowCount_0 (by decide) ?_
  refine g_lstore_n hX (fun vq1 => [(1, .long vq1), (0, .ref (adr Y t))]) d_T_rowCount_1 (by decide) (fun _ => rfl) hf (fun vq1 h2 => ?_)
  refine g_bipush hX 8 d_T_rowCount_2 (by decide) ?_
  refine g_istore_nV hX [(3, .int 8), (1, .long vq1), (0, .ref (adr Y t))] d_T_rowCount_4 (by decide) rfl ?_
  obtain ⟨vq5, h9, h10⟩ := obind h2
  have KX10 : Gd X Y 0 σ [(1, .long vq5)] 35 [] := by
    refine g_lload_n hX d_T_rowCount_35 0 rfl ?_
    cases h10
    exact g_lreturn hX hR d_T_rowCount_36
  refine g_sub (lv2 := [(0, .ref (adr Y t)), (1, .long vq1), (3, .int 8)]) [2, 1, 0] rfl ?_
  refine g_loop (fun s => T_rowCount_b1 t σ s.1 s.2) (fun s => Gd X Y 0 σ [(0, .ref (adr Y t)), (1, .long s.1), (3, .int s.2)] 5 []) vq5 ?_ fuel (vq1, 8) h9
  intro s y8 h8 h6 h7
  obtain ⟨vq3, vq4⟩ := s
  have h8 : T_rowCount_b1 t σ vq3 vq4 = some y8 := h8
  unfold T_rowCount_b1 at h8
  show Gd X Y 0 σ [(0, .ref (adr Y t)), (1, .long vq3), (3, .int vq4)] 5 []
  refine g_iload_n hX d_T_rowCount_5 2 rfl ?_
  refine g_bipush hX 24 d_T_rowCount_6 (by decide) ?_
  refine g_icmp_ge hX 35 d_T_rowCount_8 (by decide) h8 (fun h12 => ?_) (fun h13 => ?_)
  · refine g_sub (lv2 := [(1, .long vq3)]) [1] rfl ?_
    cases h12
    have h11 := h7 vq3 rfl
    cases h11
    exact KX10
  · refine g_aload_n hX d_T_rowCount_11 0 rfl ?_
    refine g_getR hX (iwT ht) (shTt ht) rfl fl_T_18 d_T_rowCount_12 ?_
    refine g_iload_n hX d_T_rowCount_15 2 rfl ?_
    refine g_iaload hX (iwA3 ht) (shA3 ht) d_T_rowCount_16 h13 (fun vq14 h15 => ?_)
    obtain ⟨vq21, h16, h17⟩ := obind h15
    have KJ17 : Gd X Y 0 σ [(0, .ref (adr Y t)), (1, .long vq21), (3, .int vq4)] 29 [] := by
      refine g_iinc hX (fun vq28 => [(3, .int vq28), (0, .ref (adr Y t)), (1, .long vq21)]) d_T_rowCount_29 2 rfl rfl (by decide) (fun _ => rfl) h17 (fun vq28 h29 => ?_)
      refine g_goto hX 5 d_T_rowCount_32 (by decide) ?_
      refine g_sub (lv2 := [(0, .ref (adr Y t)), (1, .long vq21), (3, .int vq28)]) [1, 2, 0] rfl ?_
      cases h29
      exact h6 (vq21, vq28) rfl
    refine g_if_le hX 29 d_T_rowCount_17 (by decide) h16 (fun h19 => ?_) (fun h20 => ?_)
    · refine g_sub (lv2 := [(0, .ref (adr Y t)), (1, .long vq3), (3, .int vq4)]) [0, 1, 2] rfl ?_
      cases h19
      exact KJ17
    · refine g_lload_n hX d_T_rowCount_20 1 rfl ?_
      refine g_aload_n hX d_T_rowCount_21 0 rfl ?_
      refine g_iload_n hX d_T_rowCount_22 2 rfl ?_
      obtain ⟨vq22, h23, h24⟩ := obind h20
      refine g_callV hX [.int vq4] [.long vq3] mv_T_144 (c_T_ways X.2.1 Y t vq4 ht σ _ h23) (by decide) (iwT ht) (shTt ht) rfl rfl rfl (Nat.le_of_ble_eq_true rfl) d_T_rowCount_23 (fun h25 => ?_)
      show Gd X Y 0 σ [(0, .ref (adr Y t)), (1, .long vq3), (3, .int vq4)] 26 [.int vq22, .long vq3]
      refine g_i2l hX d_T_rowCount_26 ?_
      refine g_lmul hX d_T_rowCount_27 ?_
      refine g_lstore_n hX (fun vq26 => [(1, .long vq26), (0, .ref (adr Y t)), (3, .int vq4)]) d_T_rowCount_28 (by decide) (fun _ => rfl) h24 (fun vq26 h27 => ?_)
      refine g_sub (lv2 := [(0, .ref (adr Y t)), (1, .long vq26), (3, .int vq4)]) [1, 0, 2] rfl ?_
      cases h27
      exact KJ17
noncomputable def T_setAt (a0 : Nat) (x1 : Int32) (x2 : Int32) (σ : Mem) : Option (Mem) := lt (if x1 < 0 then false else if (nI (lenOf a0)) ≤ x1 then false else true : Bool) (fun bq1 => ((if bq1 = true then (wr σ a0 x1 x2).bind (fun σ13 => some σ13) else some σ : Option (Mem))).bind (fun σ15 => some σ15))
set_option maxHeartbeats 4000000 in
set_option maxRecDepth 100000 in
theorem c_T_setAt (l : Launch) (Y : Wx) (a0 : Nat) (x1 : Int32) (x2 : Int32) (ha0 : isA a0) (σ : Mem) (o : Mem) (hf : T_setAt a0 x1 x2 σ = some o) : Ct l Y 0 y_T_setAt b_T_setAt 3 none 0 [.ref (adr Y a0), .int x1, .int x2] σ none o := by
  unfold T_setAt at hf
  refine ct_of (by decide) (Nat.le_of_ble_eq_true rfl) rfl (fun X hXl hX hR => ?_)
  subst hXl
  have hX : Fx X Y 0 b_T_setAt 3 R_T 0 := hX
  refine g_iload_n hX d_T_setAt_0 1 rfl ?_
  obtain ⟨bq1, h2, h3⟩ := ltex hf
  obtain ⟨σ15, h8, h9⟩ := obind h3
  have KJ9 : Gd X Y 0 σ15 [] 14 [] := by
    cases h9
    exact g_return hX hR d_T_setAt_14
  have Kbq1t : bq1 = true → Gd X Y 0 σ [(0, .ref (adr Y a0)), (1, .int x1), (2, .int x2)] 10 [] := by
    intro h16
    have h11 := (if_pos h16).symm.trans h8
    refine g_aload_n hX d_T_setAt_10 0 rfl ?_
    refine g_iload_n hX d_T_setAt_11 1 rfl ?_
    refine g_iload_n hX d_T_setAt_12 2 rfl ?_
    refine g_iastore hX ha0.1 ha0.2 d_T_setAt_13 h11 (fun σ13 h14 => ?_)
    refine g_sub (lv2 := []) [] rfl ?_
    cases h14
    exact KJ9
  have Kbq1f : ¬ bq1 = true → Gd X Y 0 σ [(0, .ref (adr Y a0)), (1, .int x1), (2, .int x2)] 14 [] := by
    intro h16
    have h12 := (if_neg h16).symm.trans h8
    refine g_sub (lv2 := []) [] rfl ?_
    cases h12
    exact KJ9
  refine g_if_lt hX 14 d_T_setAt_1 (by decide) h2 (fun h4 => ?_) (fun h5 => ?_)
  · cases h4
    exact Kbq1f (by decide)
  · refine g_iload_n hX d_T_setAt_4 1 rfl ?_
    refine g_aload_n hX d_T_setAt_5 0 rfl ?_
    refine g_alen hX ha0.1 ha0.2 d_T_setAt_6 ?_
    refine g_icmp_ge hX 14 d_T_setAt_7 (by decide) h5 (fun h6 => ?_) (fun h7 => ?_)
    · cases h6
      exact Kbq1f (by decide)
    · cases h7
      exact Kbq1t rfl
noncomputable def T_show_b1 (t : Nat) (vq5 : Int32) (vq18 : Int32) (σ19 : Mem) : Option ((Int32 × Mem) ⊕ (Mem)) := (rd σ19 (t + 3) vq5).bind (fun vq27 => if vq27 ≤ vq18 then some (.inr σ19) else (rd σ19 (t + 9) vq5).bind (fun vq31 => (T_part t vq5 vq18 σ19).bind (fun vq33 => (rd σ19 (t + 9) vq33).bind (fun vq37 => (wr σ19 (t + 9) vq5 (vq31 + vq37)).bind (fun σ39 => lt (vq18 + 1) (fun vq41 => some (.inl (vq41, σ39))))))))
noncomputable def T_show_b2 (t : Nat) (vq5 : Int32) (σ6 : Mem) : Option ((Int32 × Mem) ⊕ (Mem)) := if vq5 < 8 then some (.inr σ6) else (wr σ6 (t + 9) vq5 2).bind (fun σ16 => (lp (fun s => T_show_b1 t vq5 s.1 s.2) fuel (0, σ16)).bind (fun σ20 => lt (vq5 + (-1)) (fun vq43 => some (.inl (vq43, σ20)))))
noncomputable def T_show_b3 (t : Nat) (a1 : Nat) (vq47 : Int32) (vq74 : Int32) (vq75 : Int32) (σ76 : Mem) : Option ((Int32 × Int32 × Mem) ⊕ (Int32 × Mem)) := (rd σ76 (t + 3) vq47).bind (fun vq85 => if vq85 ≤ vq75 then some (.inr (vq74, σ76)) else (T_part t vq47 vq75 σ76).bind (fun vq89 => (wr σ76 (t + 8) vq89 vq74).bind (fun σ93 => ((if 8 ≤ vq89 then some σ93 else (T_setAt a1 vq74 (97 + vq89) σ93).bind (fun σ101 => some σ101) : Option (Mem))).bind (fun σ100 => (rd σ100 (t + 9) vq89).bind (fun vq105 => lt (vq74 + vq105) (fun vq107 => lt (vq75 + 1) (fun vq109 => some (.inl (vq107, vq109, σ100)))))))))
noncomputable def T_show_b4 (t : Nat) (a1 : Nat) (vq47 : Int32) (σ48 : Mem) : Option ((Int32 × Mem) ⊕ (Mem)) := if (8 + (σ48 t 5)) ≤ vq47 then some (.inr σ48) else (rd σ48 (t + 8) vq47).bind (fun vq58 => (rd σ48 (t + 1) vq47).bind (fun vq60 => lt (if vq60 = 0 then 40 else 91 : Int32) (fun vq67 => (T_setAt a1 vq58 vq67 σ48).bind (fun σ68 => lt (vq58 + 1) (fun vq72 => (lp (fun s => T_show_b3 t a1 vq47 s.1 s.2.1 s.2.2) fuel (vq72, 0, σ68)).bind (fun q => lt q.1 (fun vq77 => lt q.2 (fun σ78 => (rd σ78 (t + 1) vq47).bind (fun vq111 => lt (if vq111 = 0 then 41 else 93 : Int32) (fun vq118 => (T_setAt a1 vq77 vq118 σ78).bind (fun σ119 => lt (vq47 + 1) (fun vq123 => some (.inl (vq123, σ119))))))))))))))
noncomputable def T_show (t : Nat) (a1 : Nat) (σ : Mem) : Option (Int32 × Mem) := if (σ t 5) = 0 then (T_setAt a1 0 (97 + (σ t 4)) σ).bind (fun σ127 => some (1, σ127)) else lt ((8 + (σ t 5)) - 1) (fun vq3 => (lp (fun s => T_show_b2 t s.1 s.2) fuel (vq3, σ)).bind (fun σ7 => (wr σ7 (t + 8) (σ7 t 4) 0).bind (fun σ45 => (lp (fun s => T_show_b4 t a1 s.1 s.2) fuel (8, σ45)).bind (fun σ49 => (rd σ49 (t + 9) (σ49 t 4)).bind (fun vq125 => some (vq125, σ49))))))
set_option maxHeartbeats 4000000 in
set_option maxRecDepth 100000 in
theorem c_T_show (l : Launch) (Y : Wx) (t : Nat) (a1 : Nat) (ht : isT t) (ha1 : isA a1) (σ : Mem) (o : Int32 × Mem) (hf : T_show t a1 σ = some o) : Ct l Y 0 y_T_show b_T_show 6 (some .int) 1 [.ref (adr Y t), .ref (adr Y a1)] σ (some (.int o.1)) o.2 := by
  unfold T_show at hf
  refine ct_of (by decide) (Nat.le_of_ble_eq_true rfl) rfl (fun X hXl hX hR => ?_)
  subst hXl
  have hX : Fx X Y 0 b_T_show 6 R_T 1 := hX
  refine g_aload_n hX d_T_show_0 0 rfl ?_
  refine g_getI hX (iwT ht) (shTt ht) rfl fl_T_28.f d_T_show_1 ?_
  refine g_if_ne hX 21 d_T_show_4 (by decide) hf (fun h1 => ?_) (fun h2 => ?_)
  · refine g_bipush hX 8 d_T_show_21 (by decide) ?_
    refine g_aload_n hX d_T_show_23 0 rfl ?_
    refine g_getI hX (iwT ht) (shTt ht) rfl fl_T_28.f d_T_show_24 ?_
    refine g_iadd hX d_T_show_27 ?_
    refine g_iconst hX 1 d_T_show_28 (by decide) ?_
    refine g_isub hX d_T_show_29 ?_
    refine g_istore_n hX (fun vq3 => [(2, .int vq3), (0, .ref (adr Y t)), (1, .ref (adr Y a1))]) d_T_show_30 (by decide) (fun _ => rfl) h1 (fun vq3 h4 => ?_)
    obtain ⟨σ7, h11, h12⟩ := obind h4
    have KX12 : Gd X Y 0 σ7 [(0, .ref (adr Y t)), (1, .ref (adr Y a1))] 88 [] := by
      refine g_aload_n hX d_T_show_88 0 rfl ?_
      refine g_getR hX (iwT ht) (shTt ht) rfl fl_T_49 d_T_show_89 ?_
      refine g_aload_n hX d_T_show_92 0 rfl ?_
      refine g_getI hX (iwT ht) (shTt ht) rfl fl_T_24.f d_T_show_93 ?_
      refine g_iconst hX 0 d_T_show_96 (by decide) ?_
      refine g_iastore hX (iwA8 ht) (shA8 ht) d_T_show_97 h12 (fun σ45 h46 => ?_)
      refine g_bipush hX 8 d_T_show_98 (by decide) ?_
      refine g_istore_nV hX [(2, .int 8), (0, .ref (adr Y t)), (1, .ref (adr Y a1))] d_T_show_100 (by decide) rfl ?_
      obtain ⟨σ49, h53, h54⟩ := obind h46
      have KX54 : Gd X Y 0 σ49 [(0, .ref (adr Y t))] 234 [] := by
        refine g_aload_n hX d_T_show_234 0 rfl ?_
        refine g_getR hX (iwT ht) (shTt ht) rfl fl_T_52 d_T_show_235 ?_
        refine g_aload_n hX d_T_show_238 0 rfl ?_
        refine g_getI hX (iwT ht) (shTt ht) rfl fl_T_24.f d_T_show_239 ?_
        refine g_iaload hX (iwA9 ht) (shA9 ht) d_T_show_242 h54 (fun vq125 h126 => ?_)
        cases h126
        exact g_ireturn hX hR d_T_show_243
      refine g_sub (lv2 := [(0, .ref (adr Y t)), (1, .ref (adr Y a1)), (2, .int 8)]) [1, 2, 0] rfl ?_
      refine g_loop (fun s => T_show_b4 t a1 s.1 s.2) (fun s => Gd X Y 0 s.2 [(0, .ref (adr Y t)), (1, .ref (adr Y a1)), (2, .int s.1)] 101 []) σ49 ?_ fuel (8, σ45) h53
      intro s y52 h52 h50 h51
      obtain ⟨vq47, σ48⟩ := s
      have h52 : T_show_b4 t a1 vq47 σ48 = some y52 := h52
      unfold T_show_b4 at h52
      show Gd X Y 0 σ48 [(0, .ref (adr Y t)), (1, .ref (adr Y a1)), (2, .int vq47)] 101 []
      refine g_iload_n hX d_T_show_101 2 rfl ?_
      refine g_bipush hX 8 d_T_show_102 (by decide) ?_
      refine g_aload_n hX d_T_show_104 0 rfl ?_
      refine g_getI hX (iwT ht) (shTt ht) rfl fl_T_28.f d_T_show_105 ?_
      refine g_iadd hX d_T_show_108 ?_
      refine g_icmp_ge hX 234 d_T_show_109 (by decide) h52 (fun h56 => ?_) (fun h57 => ?_)
      · refine g_sub (lv2 := [(0, .ref (adr Y t))]) [0] rfl ?_
        cases h56
        have h55 := h51 σ48 rfl
        cases h55
        exact KX54
      · refine g_aload_n hX d_T_show_112 0 rfl ?_
        refine g_getR hX (iwT ht) (shTt ht) rfl fl_T_49 d_T_show_113 ?_
        refine g_iload_n hX d_T_show_116 2 rfl ?_
        refine g_iaload hX (iwA8 ht) (shA8 ht) d_T_show_117 h57 (fun vq58 h59 => ?_)
        refine g_istore_nV hX [(3, .int vq58), (0, .ref (adr Y t)), (1, .ref (adr Y a1)), (2, .int vq47)] d_T_show_118 (by decide) rfl ?_
        refine g_aload_n hX d_T_show_119 2 rfl ?_
        refine g_iload_n hX d_T_show_120 0 rfl ?_
        refine g_aload_n hX d_T_show_121 1 rfl ?_
        refine g_getR hX (iwT ht) (shTt ht) rfl fl_T_11 d_T_show_122 ?_
        refine g_iload_n hX d_T_show_125 3 rfl ?_
        refine g_iaload hX (iwA1 ht) (shA1 ht) d_T_show_126 h59 (fun vq60 h61 => ?_)
        obtain ⟨vq67, h62, h63⟩ := ltex h61
        have KJ63 : Gd X Y 0 σ48 [(0, .ref (adr Y t)), (1, .ref (adr Y a1)), (2, .int vq47), (3, .int vq58)] 137 [.int vq67, .int vq58, .ref (adr Y a1)] := by
          obtain ⟨σ68, h69, h70⟩ := obind h63
          refine g_callS hX [.ref (adr Y a1), .int vq58, .int vq67] [] mv_T_147 (c_T_setAt X.2.1 Y a1 vq58 vq67 ha1 σ48 _ h69) (by decide) rfl rfl (Nat.le_of_ble_eq_true rfl) d_T_show_137 (fun h71 => ?_)
          show Gd X Y 0 σ68 [(0, .ref (adr Y t)), (1, .ref (adr Y a1)), (2, .int vq47), (3, .int vq58)] 140 []
          refine g_iinc hX (fun vq72 => [(3, .int vq72), (0, .ref (adr Y t)), (1, .ref (adr Y a1)), (2, .int vq47)]) d_T_show_140 3 rfl rfl (by decide) (fun _ => rfl) h70 (fun vq72 h73 => ?_)
          refine g_iconst hX 0 d_T_show_143 (by decide) ?_
          refine g_istoreV hX [(4, .int 0), (3, .int vq72), (0, .ref (adr Y t)), (1, .ref (adr Y a1)), (2, .int vq47)] d_T_show_144 (by decide) rfl ?_
          obtain ⟨⟨vq77, σ78⟩, h82, h83⟩ := obind h73
          have h83 := lt2 h83
          have KX83 : Gd X Y 0 σ78 [(0, .ref (adr Y t)), (1, .ref (adr Y a1)), (2, .int vq47), (3, .int vq77)] 207 [] := by
            refine g_aload_n hX d_T_show_207 1 rfl ?_
            refine g_iload_n hX d_T_show_208 3 rfl ?_
            refine g_aload_n hX d_T_show_209 0 rfl ?_
            refine g_getR hX (iwT ht) (shTt ht) rfl fl_T_11 d_T_show_210 ?_
            refine g_iload_n hX d_T_show_213 2 rfl ?_
            refine g_iaload hX (iwA1 ht) (shA1 ht) d_T_show_214 h83 (fun vq111 h112 => ?_)
            obtain ⟨vq118, h113, h114⟩ := ltex h112
            have KJ114 : Gd X Y 0 σ78 [(0, .ref (adr Y t)), (1, .ref (adr Y a1)), (2, .int vq47)] 225 [.int vq118, .int vq77, .ref (adr Y a1)] := by
              obtain ⟨σ119, h120, h121⟩ := obind h114
              refine g_callS hX [.ref (adr Y a1), .int vq77, .int vq118] [] mv_T_147 (c_T_setAt X.2.1 Y a1 vq77 vq118 ha1 σ78 _ h120) (by decide) rfl rfl (Nat.le_of_ble_eq_true rfl) d_T_show_225 (fun h122 => ?_)
              show Gd X Y 0 σ119 [(0, .ref (adr Y t)), (1, .ref (adr Y a1)), (2, .int vq47)] 228 []
              refine g_iinc hX (fun vq123 => [(2, .int vq123), (0, .ref (adr Y t)), (1, .ref (adr Y a1))]) d_T_show_228 2 rfl rfl (by decide) (fun _ => rfl) h121 (fun vq123 h124 => ?_)
              refine g_goto hX 101 d_T_show_231 (by decide) ?_
              refine g_sub (lv2 := [(0, .ref (adr Y t)), (1, .ref (adr Y a1)), (2, .int vq123)]) [1, 2, 0] rfl ?_
              cases h124
              exact h50 (vq123, σ119) rfl
            refine g_if_ne hX 223 d_T_show_215 (by decide) h113 (fun h116 => ?_) (fun h117 => ?_)
            · refine g_bipush hX 93 d_T_show_223 (by decide) ?_
              refine g_sub (lv2 := [(0, .ref (adr Y t)), (1, .ref (adr Y a1)), (2, .int vq47)]) [0, 1, 2] rfl ?_
              cases h116
              exact KJ114
            · refine g_bipush hX 41 d_T_show_218 (by decide) ?_
              refine g_goto hX 225 d_T_show_220 (by decide) ?_
              refine g_sub (lv2 := [(0, .ref (adr Y t)), (1, .ref (adr Y a1)), (2, .int vq47)]) [0, 1, 2] rfl ?_
              cases h117
              exact KJ114
          refine g_sub (lv2 := [(0, .ref (adr Y t)), (1, .ref (adr Y a1)), (2, .int vq47), (3, .int vq72), (4, .int 0)]) [2, 3, 4, 1, 0] rfl ?_
          refine g_loop (fun s => T_show_b3 t a1 vq47 s.1 s.2.1 s.2.2) (fun s => Gd X Y 0 s.2.2 [(0, .ref (adr Y t)), (1, .ref (adr Y a1)), (2, .int vq47), (3, .int s.1), (4, .int s.2.1)] 146 []) (vq77, σ78) ?_ fuel (vq72, 0, σ68) h82
          intro s y81 h81 h79 h80
          obtain ⟨vq74, vq75, σ76⟩ := s
          have h81 : T_show_b3 t a1 vq47 vq74 vq75 σ76 = some y81 := h81
          unfold T_show_b3 at h81
          show Gd X Y 0 σ76 [(0, .ref (adr Y t)), (1, .ref (adr Y a1)), (2, .int vq47), (3, .int vq74), (4, .int vq75)] 146 []
          refine g_iload hX d_T_show_146 4 rfl ?_
          refine g_aload_n hX d_T_show_148 0 rfl ?_
          refine g_getR hX (iwT ht) (shTt ht) rfl fl_T_18 d_T_show_149 ?_
          refine g_iload_n hX d_T_show_152 2 rfl ?_
          refine g_iaload hX (iwA3 ht) (shA3 ht) d_T_show_153 h81 (fun vq85 h86 => ?_)
          refine g_icmp_ge hX 207 d_T_show_154 (by decide) h86 (fun h87 => ?_) (fun h88 => ?_)
          · refine g_sub (lv2 := [(0, .ref (adr Y t)), (1, .ref (adr Y a1)), (2, .int vq47), (3, .int vq74)]) [0, 1, 2, 3] rfl ?_
            cases h87
            have h84 := h80 (vq74, σ76) rfl
            cases h84
            exact KX83
          · refine g_aload_n hX d_T_show_157 0 rfl ?_
            refine g_iload_n hX d_T_show_158 2 rfl ?_
            refine g_iload hX d_T_show_159 4 rfl ?_
            obtain ⟨vq89, h90, h91⟩ := obind h88
            refine g_callV hX [.int vq47, .int vq75] [] mv_T_73 (c_T_part X.2.1 Y t vq47 vq75 ht σ76 _ h90) (by decide) (iwT ht) (shTt ht) rfl rfl rfl (Nat.le_of_ble_eq_true rfl) d_T_show_161 (fun h92 => ?_)
            show Gd X Y 0 σ76 [(0, .ref (adr Y t)), (1, .ref (adr Y a1)), (2, .int vq47), (3, .int vq74), (4, .int vq75)] 164 [.int vq89]
            refine g_istoreV hX [(5, .int vq89), (0, .ref (adr Y t)), (1, .ref (adr Y a1)), (2, .int vq47), (3, .int vq74), (4, .int vq75)] d_T_show_164 (by decide) rfl ?_
            refine g_aload_n hX d_T_show_166 1 rfl ?_
            refine g_getR hX (iwT ht) (shTt ht) rfl fl_T_49 d_T_show_167 ?_
            refine g_iload hX d_T_show_170 0 rfl ?_
            refine g_iload_n hX d_T_show_172 4 rfl ?_
            refine g_iastore hX (iwA8 ht) (shA8 ht) d_T_show_173 h91 (fun σ93 h94 => ?_)
            refine g_iload hX d_T_show_174 0 rfl ?_
            refine g_bipush hX 8 d_T_show_176 (by decide) ?_
            obtain ⟨σ100, h95, h96⟩ := obind h94
            have KJ96 : Gd X Y 0 σ100 [(0, .ref (adr Y t)), (1, .ref (adr Y a1)), (2, .int vq47), (3, .int vq74), (4, .int vq75), (5, .int vq89)] 191 [] := by
              refine g_iload_n hX d_T_show_191 3 rfl ?_
              refine g_aload_n hX d_T_show_192 0 rfl ?_
              refine g_getR hX (iwT ht) (shTt ht) rfl fl_T_52 d_T_show_193 ?_
              refine g_iload hX d_T_show_196 5 rfl ?_
              refine g_iaload hX (iwA9 ht) (shA9 ht) d_T_show_198 h96 (fun vq105 h106 => ?_)
              refine g_iadd hX d_T_show_199 ?_
              refine g_istore_n hX (fun vq107 => [(3, .int vq107), (0, .ref (adr Y t)), (1, .ref (adr Y a1)), (2, .int vq47), (4, .int vq75), (5, .int vq89)]) d_T_show_200 (by decide) (fun _ => rfl) h106 (fun vq107 h108 => ?_)
              refine g_iinc hX (fun vq109 => [(4, .int vq109), (3, .int vq107), (0, .ref (adr Y t)), (1, .ref (adr Y a1)), (2, .int vq47), (5, .int vq89)]) d_T_show_201 4 rfl rfl (by decide) (fun _ => rfl) h108 (fun vq109 h110 => ?_)
              refine g_goto hX 146 d_T_show_204 (by decide) ?_
              refine g_sub (lv2 := [(0, .ref (adr Y t)), (1, .ref (adr Y a1)), (2, .int vq47), (3, .int vq107), (4, .int vq109)]) [2, 3, 4, 1, 0] rfl ?_
              cases h110
              exact h79 (vq107, vq109, σ100) rfl
            refine g_icmp_ge hX 191 d_T_show_178 (by decide) h95 (fun h98 => ?_) (fun h99 => ?_)
            · refine g_sub (lv2 := [(0, .ref (adr Y t)), (1, .ref (adr Y a1)), (2, .int vq47), (3, .int vq74), (4, .int vq75), (5, .int vq89)]) [1, 2, 3, 4, 5, 0] rfl ?_
              cases h98
              exact KJ96
            · refine g_aload_n hX d_T_show_181 2 rfl ?_
              refine g_iload_n hX d_T_show_182 4 rfl ?_
              refine g_bipush hX 97 d_T_show_183 (by decide) ?_
              refine g_iload hX d_T_show_185 0 rfl ?_
              refine g_iadd hX d_T_show_187 ?_
              obtain ⟨σ101, h102, h103⟩ := obind h99
              refine g_callS hX [.ref (adr Y a1), .int vq74, .int (97 + vq89)] [] mv_T_147 (c_T_setAt X.2.1 Y a1 vq74 (97 + vq89) ha1 σ93 _ h102) (by decide) rfl rfl (Nat.le_of_ble_eq_true rfl) d_T_show_188 (fun h104 => ?_)
              show Gd X Y 0 σ101 [(5, .int vq89), (0, .ref (adr Y t)), (1, .ref (adr Y a1)), (2, .int vq47), (3, .int vq74), (4, .int vq75)] 191 []
              refine g_sub (lv2 := [(0, .ref (adr Y t)), (1, .ref (adr Y a1)), (2, .int vq47), (3, .int vq74), (4, .int vq75), (5, .int vq89)]) [1, 2, 3, 4, 5, 0] rfl ?_
              cases h103
              exact KJ96
        refine g_if_ne hX 135 d_T_show_127 (by decide) h62 (fun h65 => ?_) (fun h66 => ?_)
        · refine g_bipush hX 91 d_T_show_135 (by decide) ?_
          refine g_sub (lv2 := [(0, .ref (adr Y t)), (1, .ref (adr Y a1)), (2, .int vq47), (3, .int vq58)]) [1, 2, 3, 0] rfl ?_
          cases h65
          exact KJ63
        · refine g_bipush hX 40 d_T_show_130 (by decide) ?_
          refine g_goto hX 137 d_T_show_132 (by decide) ?_
          refine g_sub (lv2 := [(0, .ref (adr Y t)), (1, .ref (adr Y a1)), (2, .int vq47), (3, .int vq58)]) [1, 2, 3, 0] rfl ?_
          cases h66
          exact KJ63
    refine g_sub (lv2 := [(0, .ref (adr Y t)), (1, .ref (adr Y a1)), (2, .int vq3)]) [1, 2, 0] rfl ?_
    refine g_loop (fun s => T_show_b2 t s.1 s.2) (fun s => Gd X Y 0 s.2 [(0, .ref (adr Y t)), (1, .ref (adr Y a1)), (2, .int s.1)] 31 []) σ7 ?_ fuel (vq3, σ) h11
    intro s y10 h10 h8 h9
    obtain ⟨vq5, σ6⟩ := s
    have h10 : T_show_b2 t vq5 σ6 = some y10 := h10
    unfold T_show_b2 at h10
    show Gd X Y 0 σ6 [(0, .ref (adr Y t)), (1, .ref (adr Y a1)), (2, .int vq5)] 31 []
    refine g_iload_n hX d_T_show_31 2 rfl ?_
    refine g_bipush hX 8 d_T_show_32 (by decide) ?_
    refine g_icmp_lt hX 88 d_T_show_34 (by decide) h10 (fun h14 => ?_) (fun h15 => ?_)
    · refine g_sub (lv2 := [(0, .ref (adr Y t)), (1, .ref (adr Y a1))]) [0, 1] rfl ?_
      cases h14
      have h13 := h9 σ6 rfl
      cases h13
      exact KX12
    · refine g_aload_n hX d_T_show_37 0 rfl ?_
      refine g_getR hX (iwT ht) (shTt ht) rfl fl_T_52 d_T_show_38 ?_
      refine g_iload_n hX d_T_show_41 2 rfl ?_
      refine g_iconst hX 2 d_T_show_42 (by decide) ?_
      refine g_iastore hX (iwA9 ht) (shA9 ht) d_T_show_43 h15 (fun σ16 h17 => ?_)
      refine g_iconst hX 0 d_T_show_44 (by decide) ?_
      refine g_istore_nV hX [(3, .int 0), (0, .ref (adr Y t)), (1, .ref (adr Y a1)), (2, .int vq5)] d_T_show_45 (by decide) rfl ?_
      obtain ⟨σ20, h24, h25⟩ := obind h17
      have KX25 : Gd X Y 0 σ20 [(0, .ref (adr Y t)), (1, .ref (adr Y a1)), (2, .int vq5)] 82 [] := by
        refine g_iinc hX (fun vq43 => [(2, .int vq43), (0, .ref (adr Y t)), (1, .ref (adr Y a1))]) d_T_show_82 2 rfl rfl (by decide) (fun _ => rfl) h25 (fun vq43 h44 => ?_)
        refine g_goto hX 31 d_T_show_85 (by decide) ?_
        refine g_sub (lv2 := [(0, .ref (adr Y t)), (1, .ref (adr Y a1)), (2, .int vq43)]) [1, 2, 0] rfl ?_
        cases h44
        exact h8 (vq43, σ20) rfl
      refine g_sub (lv2 := [(0, .ref (adr Y t)), (1, .ref (adr Y a1)), (2, .int vq5), (3, .int 0)]) [1, 2, 3, 0] rfl ?_
      refine g_loop (fun s => T_show_b1 t vq5 s.1 s.2) (fun s => Gd X Y 0 s.2 [(0, .ref (adr Y t)), (1, .ref (adr Y a1)), (2, .int vq5), (3, .int s.1)] 46 []) σ20 ?_ fuel (0, σ16) h24
      intro s y23 h23 h21 h22
      obtain ⟨vq18, σ19⟩ := s
      have h23 : T_show_b1 t vq5 vq18 σ19 = some y23 := h23
      unfold T_show_b1 at h23
      show Gd X Y 0 σ19 [(0, .ref (adr Y t)), (1, .ref (adr Y a1)), (2, .int vq5), (3, .int vq18)] 46 []
      refine g_iload_n hX d_T_show_46 3 rfl ?_
      refine g_aload_n hX d_T_show_47 0 rfl ?_
      refine g_getR hX (iwT ht) (shTt ht) rfl fl_T_18 d_T_show_48 ?_
      refine g_iload_n hX d_T_show_51 2 rfl ?_
      refine g_iaload hX (iwA3 ht) (shA3 ht) d_T_show_52 h23 (fun vq27 h28 => ?_)
      refine g_icmp_ge hX 82 d_T_show_53 (by decide) h28 (fun h29 => ?_) (fun h30 => ?_)
      · refine g_sub (lv2 := [(0, .ref (adr Y t)), (1, .ref (adr Y a1)), (2, .int vq5)]) [0, 1, 2] rfl ?_
        cases h29
        have h26 := h22 σ19 rfl
        cases h26
        exact KX25
      · refine g_aload_n hX d_T_show_56 0 rfl ?_
        refine g_getR hX (iwT ht) (shTt ht) rfl fl_T_52 d_T_show_57 ?_
        refine g_iload_n hX d_T_show_60 2 rfl ?_
        refine g_dup2 hX d_T_show_61 rfl rfl ?_
        refine g_iaload hX (iwA9 ht) (shA9 ht) d_T_show_62 h30 (fun vq31 h32 => ?_)
        refine g_aload_n hX d_T_show_63 0 rfl ?_
        refine g_getR hX (iwT ht) (shTt ht) rfl fl_T_52 d_T_show_64 ?_
        refine g_aload_n hX d_T_show_67 0 rfl ?_
        refine g_iload_n hX d_T_show_68 2 rfl ?_
        refine g_iload_n hX d_T_show_69 3 rfl ?_
        obtain ⟨vq33, h34, h35⟩ := obind h32
        refine g_callV hX [.int vq5, .int vq18] [.ref (adr Y (t + 9)), .int vq31, .int vq5, .ref (adr Y (t + 9))] mv_T_73 (c_T_part X.2.1 Y t vq5 vq18 ht σ19 _ h34) (by decide) (iwT ht) (shTt ht) rfl rfl rfl (Nat.le_of_ble_eq_true rfl) d_T_show_70 (fun h36 => ?_)
        show Gd X Y 0 σ19 [(0, .ref (adr Y t)), (1, .ref (adr Y a1)), (2, .int vq5), (3, .int vq18)] 73 [.int vq33, .ref (adr Y (t + 9)), .int vq31, .int vq5, .ref (adr Y (t + 9))]
        refine g_iaload hX (iwA9 ht) (shA9 ht) d_T_show_73 h35 (fun vq37 h38 => ?_)
        refine g_iadd hX d_T_show_74 ?_
        refine g_iastore hX (iwA9 ht) (shA9 ht) d_T_show_75 h38 (fun σ39 h40 => ?_)
        refine g_iinc hX (fun vq41 => [(3, .int vq41), (0, .ref (adr Y t)), (1, .ref (adr Y a1)), (2, .int vq5)]) d_T_show_76 3 rfl rfl (by decide) (fun _ => rfl) h40 (fun vq41 h42 => ?_)
        refine g_goto hX 46 d_T_show_79 (by decide) ?_
        refine g_sub (lv2 := [(0, .ref (adr Y t)), (1, .ref (adr Y a1)), (2, .int vq5), (3, .int vq41)]) [1, 2, 3, 0] rfl ?_
        cases h42
        exact h21 (vq41, σ39) rfl
  · refine g_aload_n hX d_T_show_7 1 rfl ?_
    refine g_iconst hX 0 d_T_show_8 (by decide) ?_
    refine g_bipush hX 97 d_T_show_9 (by decide) ?_
    refine g_aload_n hX d_T_show_11 0 rfl ?_
    refine g_getI hX (iwT ht) (shTt ht) rfl fl_T_24.f d_T_show_12 ?_
    refine g_iadd hX d_T_show_15 ?_
    obtain ⟨σ127, h128, h129⟩ := obind h2
    refine g_callS hX [.ref (adr Y a1), .int 0, .int (97 + (σ t 4))] [] mv_T_147 (c_T_setAt X.2.1 Y a1 0 (97 + (σ t 4)) ha1 σ _ h128) (by decide) rfl rfl (Nat.le_of_ble_eq_true rfl) d_T_show_16 (fun h130 => ?_)
    show Gd X Y 0 σ127 [(0, .ref (adr Y t)), (1, .ref (adr Y a1))] 19 []
    refine g_iconst hX 1 d_T_show_19 (by decide) ?_
    cases h129
    exact g_ireturn hX hR d_T_show_20
