noncomputable def M_findsGo_b1 (vq14 : Int32) (vq36 : Int32) (vq48 : Int32) (σ49 : Mem) : Option ((Int32 × Mem) ⊕ (Mem)) := if (σ49 43 0) ≤ vq48 then some (.inr σ49) else ((if (M_isIn vq36 vq48) = 0 then some false else (rd σ49 47 (vq14 ||| (1 <<< (vq48 &&& 31)))).bind (fun vq65 => if vq65 = 1 then some true else some false) : Option (Bool))).bind (fun bq60 => ((if bq60 = true then (rd σ49 46 vq14).bind (fun vq74 => (wr σ49 46 vq14 (vq74 ||| (1 <<< (vq48 &&& 31)))).bind (fun σ76 => (wr σ76 47 vq14 1).bind (fun σ78 => some σ78))) else some σ49 : Option (Mem))).bind (fun σ80 => lt (vq48 + 1) (fun vq82 => some (.inl (vq82, σ80)))))
noncomputable def M_findsGo_b2 (vq1 : Int32) (vq14 : Int32) (σ15 : Mem) : Option ((Int32 × Mem) ⊕ (Mem)) := if vq14 < 0 then some (.inr σ15) else (rd σ15 45 vq14).bind (fun vq25 => ((if vq25 = 0 then some 0 else (M_nexts vq14 vq1 0 σ15).bind (fun vq32 => some vq32) : Option (Int32))).bind (fun vq36 => (wr σ15 46 vq14 0).bind (fun σ37 => lt (if vq14 = (M_all σ37) then 1 else 0 : Int32) (fun vq45 => (wr σ37 47 vq14 vq45).bind (fun σ46 => (lp (fun s => M_findsGo_b1 vq14 vq36 s.1 s.2) fuel (0, σ46)).bind (fun σ50 => lt (vq14 + (-1)) (fun vq84 => some (.inl (vq84, σ50)))))))))
noncomputable def M_findsGo  (σ : Mem) : Option (Mem) := (M_takenNow σ).bind (fun q => lt q.1 (fun vq1 => lt q.2 (fun σ2 => (M_rowsBy vq1 0 σ2).bind (fun q => lt q.1 (fun vq6 => lt q.2 (fun σ7 => lt (M_all σ7) (fun vq12 => (lp (fun s => M_findsGo_b2 vq1 s.1 s.2) fuel (vq12, σ7)).bind (fun σ16 => some σ16))))))))
set_option maxHeartbeats 4000000 in
set_option maxRecDepth 100000 in
theorem c_M_findsGo (l : Launch) (Y : Wx)   (σ : Mem) (o : Mem) (hf : M_findsGo σ = some o) : Ct l Y 1 y_M_findsGo b_M_findsGo 5 none 4 [.ref (adr Y 43)] σ none o := by
  unfold M_findsGo at hf
  refine ct_of (by decide) (Nat.le_of_ble_eq_true rfl) rfl (fun X hXl hX hR => ?_)
  subst hXl
  have hX : Fx X Y 1 b_M_findsGo 5 R_M 4 := hX
  refine g_aload_n hX d_M_findsGo_0 0 rfl ?_
  obtain ⟨⟨vq1, σ2⟩, h3, h4⟩ := obind hf
  have h4 := lt2 h4
  refine g_callV hX [] [] mv_M_96 (c_M_takenNow X.2.1 Y σ _ h3) (by decide) iw_43 sh_43 rfl rfl rfl (Nat.le_of_ble_eq_true rfl) d_M_findsGo_1 (fun h5 => ?_)
  show Gd X Y 1 σ2 [(0, .ref (adr Y 43))] 4 [.int vq1]
  refine g_istore_nV hX [(1, .int vq1), (0, .ref (adr Y 43))] d_M_findsGo_4 (by decide) rfl ?_
  refine g_aload_n hX d_M_findsGo_5 1 rfl ?_
  refine g_iload_n hX d_M_findsGo_6 0 rfl ?_
  refine g_iconst hX 0 d_M_findsGo_7 (by decide) ?_
  obtain ⟨⟨vq6, σ7⟩, h8, h9⟩ := obind h4
  have h9 := lt2 h9
  refine g_callV hX [.int vq1, .int 0] [] mv_M_117 (c_M_rowsBy X.2.1 Y vq1 0 σ2 _ h8) (by decide) iw_43 sh_43 rfl rfl rfl (Nat.le_of_ble_eq_true rfl) d_M_findsGo_8 (fun h10 => ?_)
  show Gd X Y 1 σ7 [(1, .int vq1), (0, .ref (adr Y 43))] 11 [.int vq6]
  refine g_pop hX d_M_findsGo_11 rfl ?_
  refine g_aload_n hX d_M_findsGo_12 1 rfl ?_
  refine g_callV hX [] [] mv_M_110 (c_M_all X.2.1 Y σ7 _ rfl) (by decide) iw_43 sh_43 rfl rfl rfl (Nat.le_of_ble_eq_true rfl) d_M_findsGo_13 (fun h11 => ?_)
  show Gd X Y 1 σ7 [(1, .int vq1), (0, .ref (adr Y 43))] 16 [.int (M_all σ7)]
  refine g_istore_n hX (fun vq12 => [(2, .int vq12), (1, .int vq1), (0, .ref (adr Y 43))]) d_M_findsGo_16 (by decide) (fun _ => rfl) h9 (fun vq12 h13 => ?_)
  obtain ⟨σ16, h20, h21⟩ := obind h13
  have KX21 : Gd X Y 1 σ16 [] 136 [] := by
    cases h21
    exact g_return hX hR d_M_findsGo_136
  refine g_sub (lv2 := [(0, .ref (adr Y 43)), (1, .int vq1), (2, .int vq12)]) [2, 1, 0] rfl ?_
  refine g_loop (fun s => M_findsGo_b2 vq1 s.1 s.2) (fun s => Gd X Y 1 s.2 [(0, .ref (adr Y 43)), (1, .int vq1), (2, .int s.1)] 17 []) σ16 ?_ fuel (vq12, σ7) h20
  intro s y19 h19 h17 h18
  obtain ⟨vq14, σ15⟩ := s
  have h19 : M_findsGo_b2 vq1 vq14 σ15 = some y19 := h19
  unfold M_findsGo_b2 at h19
  show Gd X Y 1 σ15 [(0, .ref (adr Y 43)), (1, .int vq1), (2, .int vq14)] 17 []
  refine g_iload_n hX d_M_findsGo_17 2 rfl ?_
  refine g_if_lt hX 136 d_M_findsGo_18 (by decide) h19 (fun h23 => ?_) (fun h24 => ?_)
  · refine g_sub (lv2 := []) [] rfl ?_
    cases h23
    have h22 := h18 σ15 rfl
    cases h22
    exact KX21
  · refine g_aload_n hX d_M_findsGo_21 0 rfl ?_
    refine g_getR hX iw_43 sh_43 rfl fl_M_17 d_M_findsGo_22 ?_
    refine g_iload_n hX d_M_findsGo_25 2 rfl ?_
    refine g_iaload hX iw_45 sh_45 d_M_findsGo_26 h24 (fun vq25 h26 => ?_)
    obtain ⟨vq36, h27, h28⟩ := obind h26
    have KJ28 : Gd X Y 1 σ15 [(0, .ref (adr Y 43)), (1, .int vq1), (2, .int vq14)] 41 [.int vq36] := by
      refine g_istore_nV hX [(3, .int vq36), (0, .ref (adr Y 43)), (1, .int vq1), (2, .int vq14)] d_M_findsGo_41 (by decide) rfl ?_
      refine g_aload_n hX d_M_findsGo_42 1 rfl ?_
      refine g_getR hX iw_43 sh_43 rfl fl_M_20 d_M_findsGo_43 ?_
      refine g_iload_n hX d_M_findsGo_46 3 rfl ?_
      refine g_iconst hX 0 d_M_findsGo_47 (by decide) ?_
      refine g_iastore hX iw_46 sh_46 d_M_findsGo_48 h28 (fun σ37 h38 => ?_)
      refine g_aload_n hX d_M_findsGo_49 1 rfl ?_
      refine g_getR hX iw_43 sh_43 rfl fl_M_23 d_M_findsGo_50 ?_
      refine g_iload_n hX d_M_findsGo_53 3 rfl ?_
      refine g_iload_n hX d_M_findsGo_54 3 rfl ?_
      refine g_aload_n hX d_M_findsGo_55 1 rfl ?_
      refine g_callV hX [] [.int vq14, .int vq14, .ref (adr Y 47)] mv_M_110 (c_M_all X.2.1 Y σ37 _ rfl) (by decide) iw_43 sh_43 rfl rfl rfl (Nat.le_of_ble_eq_true rfl) d_M_findsGo_56 (fun h39 => ?_)
      show Gd X Y 1 σ37 [(3, .int vq36), (0, .ref (adr Y 43)), (1, .int vq1), (2, .int vq14)] 59 [.int (M_all σ37), .int vq14, .int vq14, .ref (adr Y 47)]
      obtain ⟨vq45, h40, h41⟩ := ltex h38
      have KJ41 : okR (some .boolean) (some (.int vq45)) → Gd X Y 1 σ37 [(0, .ref (adr Y 43)), (1, .int vq1), (2, .int vq14), (3, .int vq36)] 67 [.int vq45, .int vq14, .ref (adr Y 47)] := by
        intro hbvq45
        refine g_iastore hX iw_47 sh_47 d_M_findsGo_67 h41 (fun σ46 h47 => ?_)
        refine g_iconst hX 0 d_M_findsGo_68 (by decide) ?_
        refine g_istoreV hX [(4, .int 0), (0, .ref (adr Y 43)), (1, .int vq1), (2, .int vq14), (3, .int vq36)] d_M_findsGo_69 (by decide) rfl ?_
        obtain ⟨σ50, h54, h55⟩ := obind h47
        have KX55 : Gd X Y 1 σ50 [(0, .ref (adr Y 43)), (1, .int vq1), (2, .int vq14)] 130 [] := by
          refine g_iinc hX (fun vq84 => [(2, .int vq84), (0, .ref (adr Y 43)), (1, .int vq1)]) d_M_findsGo_130 2 rfl rfl (by decide) (fun _ => rfl) h55 (fun vq84 h85 => ?_)
          refine g_goto hX 17 d_M_findsGo_133 (by decide) ?_
          refine g_sub (lv2 := [(0, .ref (adr Y 43)), (1, .int vq1), (2, .int vq84)]) [1, 2, 0] rfl ?_
          cases h85
          exact h17 (vq84, σ50) rfl
        refine g_sub (lv2 := [(0, .ref (adr Y 43)), (1, .int vq1), (2, .int vq14), (3, .int vq36), (4, .int 0)]) [1, 2, 3, 4, 0] rfl ?_
        refine g_loop (fun s => M_findsGo_b1 vq14 vq36 s.1 s.2) (fun s => Gd X Y 1 s.2 [(0, .ref (adr Y 43)), (1, .int vq1), (2, .int vq14), (3, .int vq36), (4, .int s.1)] 71 []) σ50 ?_ fuel (0, σ46) h54
        intro s y53 h53 h51 h52
        obtain ⟨vq48, σ49⟩ := s
        have h53 : M_findsGo_b1 vq14 vq36 vq48 σ49 = some y53 := h53
        unfold M_findsGo_b1 at h53
        show Gd X Y 1 σ49 [(0, .ref (adr Y 43)), (1, .int vq1), (2, .int vq14), (3, .int vq36), (4, .int vq48)] 71 []
        refine g_iload hX d_M_findsGo_71 4 rfl ?_
        refine g_aload_n hX d_M_findsGo_73 0 rfl ?_
        refine g_getI hX iw_43 sh_43 rfl fl_M_7.f d_M_findsGo_74 ?_
        refine g_icmp_ge hX 130 d_M_findsGo_77 (by decide) h53 (fun h57 => ?_) (fun h58 => ?_)
        · refine g_sub (lv2 := [(0, .ref (adr Y 43)), (1, .int vq1), (2, .int vq14)]) [0, 1, 2] rfl ?_
          cases h57
          have h56 := h52 σ49 rfl
          cases h56
          exact KX55
        · refine g_iload_n hX d_M_findsGo_80 3 rfl ?_
          refine g_iload hX d_M_findsGo_81 4 rfl ?_
          refine g_callS hX [.int vq36, .int vq48] [] mv_M_81 (c_M_isIn X.2.1 Y vq36 vq48 σ49 _ rfl) (by decide) rfl rfl (Nat.le_of_ble_eq_true rfl) d_M_findsGo_83 (fun h59 => ?_)
          show Gd X Y 1 σ49 [(0, .ref (adr Y 43)), (1, .int vq1), (2, .int vq14), (3, .int vq36), (4, .int vq48)] 86 [.int (M_isIn vq36 vq48)]
          obtain ⟨bq60, h61, h62⟩ := obind h58
          obtain ⟨σ80, h69, h70⟩ := obind h62
          have KJ70 : Gd X Y 1 σ80 [(0, .ref (adr Y 43)), (1, .int vq1), (2, .int vq14), (3, .int vq36), (4, .int vq48)] 124 [] := by
            refine g_iinc hX (fun vq82 => [(4, .int vq82), (0, .ref (adr Y 43)), (1, .int vq1), (2, .int vq14), (3, .int vq36)]) d_M_findsGo_124 4 rfl rfl (by decide) (fun _ => rfl) h70 (fun vq82 h83 => ?_)
            refine g_goto hX 71 d_M_findsGo_127 (by decide) ?_
            refine g_sub (lv2 := [(0, .ref (adr Y 43)), (1, .int vq1), (2, .int vq14), (3, .int vq36), (4, .int vq82)]) [1, 2, 3, 4, 0] rfl ?_
            cases h83
            exact h51 (vq82, σ80) rfl
          have Kbq60t : bq60 = true → Gd X Y 1 σ49 [(0, .ref (adr Y 43)), (1, .int vq1), (2, .int vq14), (3, .int vq36), (4, .int vq48)] 104 [] := by
            intro h81
            have h72 := (if_pos h81).symm.trans h69
            refine g_aload_n hX d_M_findsGo_104 0 rfl ?_
            refine g_getR hX iw_43 sh_43 rfl fl_M_20 d_M_findsGo_105 ?_
            refine g_iload_n hX d_M_findsGo_108 2 rfl ?_
            refine g_dup2 hX d_M_findsGo_109 rfl rfl ?_
            refine g_iaload hX iw_46 sh_46 d_M_findsGo_110 h72 (fun vq74 h75 => ?_)
            refine g_iconst hX 1 d_M_findsGo_111 (by decide) ?_
            refine g_iload hX d_M_findsGo_112 4 rfl ?_
            refine g_ishl hX d_M_findsGo_114 ?_
            refine g_ior hX d_M_findsGo_115 ?_
            refine g_iastore hX iw_46 sh_46 d_M_findsGo_116 h75 (fun σ76 h77 => ?_)
            refine g_aload_n hX d_M_findsGo_117 0 rfl ?_
            refine g_getR hX iw_43 sh_43 rfl fl_M_23 d_M_findsGo_118 ?_
            refine g_iload_n hX d_M_findsGo_121 2 rfl ?_
            refine g_iconst hX 1 d_M_findsGo_122 (by decide) ?_
            refine g_iastore hX iw_47 sh_47 d_M_findsGo_123 h77 (fun σ78 h79 => ?_)
            refine g_sub (lv2 := [(0, .ref (adr Y 43)), (1, .int vq1), (2, .int vq14), (3, .int vq36), (4, .int vq48)]) [0, 1, 2, 3, 4] rfl ?_
            cases h79
            exact KJ70
          have Kbq60f : ¬ bq60 = true → Gd X Y 1 σ49 [(0, .ref (adr Y 43)), (1, .int vq1), (2, .int vq14), (3, .int vq36), (4, .int vq48)] 124 [] := by
            intro h81
            have h73 := (if_neg h81).symm.trans h69
            refine g_sub (lv2 := [(0, .ref (adr Y 43)), (1, .int vq1), (2, .int vq14), (3, .int vq36), (4, .int vq48)]) [0, 1, 2, 3, 4] rfl ?_
            cases h73
            exact KJ70
          refine g_if_eq hX 124 d_M_findsGo_86 (by decide) h61 (fun h63 => ?_) (fun h64 => ?_)
          · cases h63
            exact Kbq60f (by decide)
          · refine g_aload_n hX d_M_findsGo_89 0 rfl ?_
            refine g_getR hX iw_43 sh_43 rfl fl_M_23 d_M_findsGo_90 ?_
            refine g_iload_n hX d_M_findsGo_93 2 rfl ?_
            refine g_iconst hX 1 d_M_findsGo_94 (by decide) ?_
            refine g_iload hX d_M_findsGo_95 4 rfl ?_
            refine g_ishl hX d_M_findsGo_97 ?_
            refine g_ior hX d_M_findsGo_98 ?_
            refine g_iaload hX iw_47 sh_47 d_M_findsGo_99 h64 (fun vq65 h66 => ?_)
            refine g_iconst hX 1 d_M_findsGo_100 (by decide) ?_
            refine g_icmp_ne hX 124 d_M_findsGo_101 (by decide) h66 (fun h67 => ?_) (fun h68 => ?_)
            · cases h67
              exact Kbq60f (by decide)
            · cases h68
              exact Kbq60t rfl
      refine g_icmp_ne hX 66 d_M_findsGo_59 (by decide) h40 (fun h43 => ?_) (fun h44 => ?_)
      · refine g_iconst hX 0 d_M_findsGo_66 (by decide) ?_
        refine g_sub (lv2 := [(0, .ref (adr Y 43)), (1, .int vq1), (2, .int vq14), (3, .int vq36)]) [1, 2, 3, 0] rfl ?_
        cases h43
        exact KJ41 okB0
      · refine g_iconst hX 1 d_M_findsGo_62 (by decide) ?_
        refine g_goto hX 67 d_M_findsGo_63 (by decide) ?_
        refine g_sub (lv2 := [(0, .ref (adr Y 43)), (1, .int vq1), (2, .int vq14), (3, .int vq36)]) [1, 2, 3, 0] rfl ?_
        cases h44
        exact KJ41 okB1
    refine g_if_ne hX 34 d_M_findsGo_27 (by decide) h27 (fun h30 => ?_) (fun h31 => ?_)
    · refine g_aload_n hX d_M_findsGo_34 0 rfl ?_
      refine g_iload_n hX d_M_findsGo_35 2 rfl ?_
      refine g_iload_n hX d_M_findsGo_36 1 rfl ?_
      refine g_iconst hX 0 d_M_findsGo_37 (by decide) ?_
      obtain ⟨vq32, h33, h34⟩ := obind h30
      refine g_callV hX [.int vq14, .int vq1, .int 0] [] mv_M_113 (c_M_nexts X.2.1 Y vq14 vq1 0 σ15 _ h33) (by decide) iw_43 sh_43 rfl rfl rfl (Nat.le_of_ble_eq_true rfl) d_M_findsGo_38 (fun h35 => ?_)
      show Gd X Y 1 σ15 [(0, .ref (adr Y 43)), (1, .int vq1), (2, .int vq14)] 41 [.int vq32]
      refine g_sub (lv2 := [(0, .ref (adr Y 43)), (1, .int vq1), (2, .int vq14)]) [0, 1, 2] rfl ?_
      cases h34
      exact KJ28
    · refine g_iconst hX 0 d_M_findsGo_30 (by decide) ?_
      refine g_goto hX 41 d_M_findsGo_31 (by decide) ?_
      refine g_sub (lv2 := [(0, .ref (adr Y 43)), (1, .int vq1), (2, .int vq14)]) [0, 1, 2] rfl ?_
      cases h31
      exact KJ28
noncomputable def M_isSure_b1 (x1 : Int32) (σ : Mem) (vq1 : Int32) : Option ((Int32) ⊕ ((Unit) ⊕ (Int32))) := if (M_all σ) ≤ vq1 then some (.inr (.inl ())) else lt (vq1 &&& x1) (fun vq11 => ((if vq11 = 0 then some false else if vq11 = x1 then some false else (rd σ 46 vq1).bind (fun vq20 => if (vq20 &&& (x1 ^^^ (-1))) = 0 then some false else some true) : Option (Bool))).bind (fun bq13 => if bq13 = true then some (.inr (.inr 0)) else lt (vq1 + 1) (fun vq26 => some (.inl vq26))))
noncomputable def M_isSure (x1 : Int32) (σ : Mem) : Option (Int32) := (lp (fun s => M_isSure_b1 x1 σ s) fuel 0).bind (fun x => Sum.elim (fun _u => some 1) (fun z => some z) x)
set_option maxHeartbeats 4000000 in
set_option maxRecDepth 100000 in
theorem c_M_isSure (l : Launch) (Y : Wx) (x1 : Int32)  (σ : Mem) (o : Int32) (hf : M_isSure x1 σ = some o) : Ct l Y 1 y_M_isSure b_M_isSure 4 (some .boolean) 1 [.ref (adr Y 43), .int x1] σ (some (.int o)) σ := by
  unfold M_isSure at hf
  refine ct_of (by decide) (Nat.le_of_ble_eq_true rfl) rfl (fun X hXl hX hR => ?_)
  subst hXl
  have hX : Fx X Y 1 b_M_isSure 4 R_M 1 := hX
  refine g_iconst hX 0 d_M_isSure_0 (by decide) ?_
  refine g_istore_nV hX [(2, .int 0), (0, .ref (adr Y 43)), (1, .int x1)] d_M_isSure_1 (by decide) rfl ?_
  obtain ⟨h5x, h5, h6⟩ := obind hf
  have KX6 : h5x = .inl () → Gd X Y 1 σ [] 44 [] := by
    intro h7
    subst h7
    dsimp only [Sum.elim_inl] at h6
    refine g_iconst hX 1 d_M_isSure_44 (by decide) ?_
    cases h6
    exact g_zreturn hX hR okB1 d_M_isSure_45
  refine g_sub (lv2 := [(0, .ref (adr Y 43)), (1, .int x1), (2, .int 0)]) [1, 2, 0] rfl ?_
  refine g_loop (fun s => M_isSure_b1 x1 σ s) (fun s => Gd X Y 1 σ [(0, .ref (adr Y 43)), (1, .int x1), (2, .int s)] 2 []) h5x ?_ fuel 0 h5
  intro vq1 y4 h4 h2 h3
  have h4 : M_isSure_b1 x1 σ vq1 = some y4 := h4
  unfold M_isSure_b1 at h4
  show Gd X Y 1 σ [(0, .ref (adr Y 43)), (1, .int x1), (2, .int vq1)] 2 []
  refine g_iload_n hX d_M_isSure_2 2 rfl ?_
  refine g_aload_n hX d_M_isSure_3 0 rfl ?_
  refine g_callV hX [] [.int vq1] mv_M_110 (c_M_all X.2.1 Y σ _ rfl) (by decide) iw_43 sh_43 rfl rfl rfl (Nat.le_of_ble_eq_true rfl) d_M_isSure_4 (fun h8 => ?_)
  show Gd X Y 1 σ [(0, .ref (adr Y 43)), (1, .int x1), (2, .int vq1)] 7 [.int (M_all σ), .int vq1]
  refine g_icmp_ge hX 44 d_M_isSure_7 (by decide) h4 (fun h9 => ?_) (fun h10 => ?_)
  · refine g_sub (lv2 := []) [] rfl ?_
    cases h9
    exact KX6  (h3 (.inl ()) rfl).symm
  · refine g_iload_n hX d_M_isSure_10 2 rfl ?_
    refine g_iload_n hX d_M_isSure_11 1 rfl ?_
    refine g_iand hX d_M_isSure_12 ?_
    refine g_istore_n hX (fun vq11 => [(3, .int vq11), (0, .ref (adr Y 43)), (1, .int x1), (2, .int vq1)]) d_M_isSure_13 (by decide) (fun _ => rfl) h10 (fun vq11 h12 => ?_)
    refine g_iload_n hX d_M_isSure_14 0 rfl ?_
    obtain ⟨bq13, h14, h15⟩ := obind h12
    have Kbq13t : bq13 = true → Gd X Y 1 σ [(3, .int vq11), (0, .ref (adr Y 43)), (1, .int x1), (2, .int vq1)] 36 [] := by
      intro h28
      have h24 := (if_pos h28).symm.trans h15
      refine g_iconst hX 0 d_M_isSure_36 (by decide) ?_
      cases h24
      have h7 := h3 (.inr 0) rfl
      subst h7
      dsimp only [Sum.elim_inr] at h6
      cases h6
      exact g_zreturn hX hR okB0 d_M_isSure_37
    have Kbq13f : ¬ bq13 = true → Gd X Y 1 σ [(3, .int vq11), (0, .ref (adr Y 43)), (1, .int x1), (2, .int vq1)] 38 [] := by
      intro h28
      have h25 := (if_neg h28).symm.trans h15
      refine g_iinc hX (fun vq26 => [(2, .int vq26), (3, .int vq11), (0, .ref (adr Y 43)), (1, .int x1)]) d_M_isSure_38 3 rfl rfl (by decide) (fun _ => rfl) h25 (fun vq26 h27 => ?_)
      refine g_goto hX 2 d_M_isSure_41 (by decide) ?_
      refine g_sub (lv2 := [(0, .ref (adr Y 43)), (1, .int x1), (2, .int vq26)]) [2, 3, 0] rfl ?_
      cases h27
      exact h2 vq26 rfl
    refine g_if_eq hX 38 d_M_isSure_15 (by decide) h14 (fun h16 => ?_) (fun h17 => ?_)
    · cases h16
      exact Kbq13f (by decide)
    · refine g_iload_n hX d_M_isSure_18 0 rfl ?_
      refine g_iload_n hX d_M_isSure_19 2 rfl ?_
      refine g_icmp_eq hX 38 d_M_isSure_20 (by decide) h17 (fun h18 => ?_) (fun h19 => ?_)
      · cases h18
        exact Kbq13f (by decide)
      · refine g_aload_n hX d_M_isSure_23 1 rfl ?_
        refine g_getR hX iw_43 sh_43 rfl fl_M_20 d_M_isSure_24 ?_
        refine g_iload_n hX d_M_isSure_27 3 rfl ?_
        refine g_iaload hX iw_46 sh_46 d_M_isSure_28 h19 (fun vq20 h21 => ?_)
        refine g_iload_n hX d_M_isSure_29 2 rfl ?_
        refine g_iconst hX (-1) d_M_isSure_30 (by decide) ?_
        refine g_ixor hX d_M_isSure_31 ?_
        refine g_iand hX d_M_isSure_32 ?_
        refine g_if_eq hX 38 d_M_isSure_33 (by decide) h21 (fun h22 => ?_) (fun h23 => ?_)
        · cases h22
          exact Kbq13f (by decide)
        · cases h23
          exact Kbq13t rfl
noncomputable def M_areCrossing (x0 : Int32) (x1 : Int32) : Int32 := lt (if (x0 &&& x1) = 0 then false else if (x0 &&& (x1 ^^^ (-1))) = 0 then false else if (x1 &&& (x0 ^^^ (-1))) = 0 then false else true : Bool) (fun bq1 => lt (if bq1 = true then 1 else 0 : Int32) (fun vq15 => vq15))
set_option maxHeartbeats 4000000 in
set_option maxRecDepth 100000 in
theorem c_M_areCrossing (l : Launch) (Y : Wx) (x0 : Int32) (x1 : Int32)  (σ : Mem) (o : Int32) (hf : M_areCrossing x0 x1 = o) : Ct l Y 1 y_M_areCrossing b_M_areCrossing 2 (some .boolean) 0 [.int x0, .int x1] σ (some (.int o)) σ := by
  unfold M_areCrossing at hf
  refine ct_of (by decide) (Nat.le_of_ble_eq_true rfl) rfl (fun X hXl hX hR => ?_)
  subst hXl
  have hX : Fx X Y 1 b_M_areCrossing 2 R_M 0 := hX
  refine g_iload_n hX d_M_areCrossing_0 0 rfl ?_
  refine g_iload_n hX d_M_areCrossing_1 1 rfl ?_
  refine g_iand hX d_M_areCrossing_2 ?_
  obtain ⟨bq1, h2, h3⟩ := ltex hf
  obtain ⟨vq15, h10, h11⟩ := ltex h3
  have KJ11 : okR (some .boolean) (some (.int vq15)) → Gd X Y 1 σ [] 27 [.int vq15] := by
    intro hbvq15
    cases h11
    exact g_zreturn hX hR hbvq15 d_M_areCrossing_27
  have Kbq1t : bq1 = true → Gd X Y 1 σ [(0, .int x0), (1, .int x1)] 22 [] := by
    intro h16
    have h13 := (if_pos h16).symm.trans h10
    refine g_iconst hX 1 d_M_areCrossing_22 (by decide) ?_
    refine g_goto hX 27 d_M_areCrossing_23 (by decide) ?_
    refine g_sub (lv2 := []) [] rfl ?_
    cases h13
    exact KJ11 okB1
  have Kbq1f : ¬ bq1 = true → Gd X Y 1 σ [(0, .int x0), (1, .int x1)] 26 [] := by
    intro h16
    have h14 := (if_neg h16).symm.trans h10
    refine g_iconst hX 0 d_M_areCrossing_26 (by decide) ?_
    refine g_sub (lv2 := []) [] rfl ?_
    cases h14
    exact KJ11 okB0
  refine g_if_eq hX 26 d_M_areCrossing_3 (by decide) h2 (fun h4 => ?_) (fun h5 => ?_)
  · cases h4
    exact Kbq1f (by decide)
  · refine g_iload_n hX d_M_areCrossing_6 0 rfl ?_
    refine g_iload_n hX d_M_areCrossing_7 1 rfl ?_
    refine g_iconst hX (-1) d_M_areCrossing_8 (by decide) ?_
    refine g_ixor hX d_M_areCrossing_9 ?_
    refine g_iand hX d_M_areCrossing_10 ?_
    refine g_if_eq hX 26 d_M_areCrossing_11 (by decide) h5 (fun h6 => ?_) (fun h7 => ?_)
    · cases h6
      exact Kbq1f (by decide)
    · refine g_iload_n hX d_M_areCrossing_14 1 rfl ?_
      refine g_iload_n hX d_M_areCrossing_15 0 rfl ?_
      refine g_iconst hX (-1) d_M_areCrossing_16 (by decide) ?_
      refine g_ixor hX d_M_areCrossing_17 ?_
      refine g_iand hX d_M_areCrossing_18 ?_
      refine g_if_eq hX 26 d_M_areCrossing_19 (by decide) h7 (fun h8 => ?_) (fun h9 => ?_)
      · cases h8
        exact Kbq1f (by decide)
      · cases h9
        exact Kbq1t rfl
noncomputable def M_findsStrong_b1  (vq5 : Int32) (σ6 : Mem) : Option ((Int32 × Mem) ⊕ (Mem)) := if (M_all σ6) < vq5 then some (.inr σ6) else (M_many vq5).bind (fun vq17 => ((if vq17 ≤ 1 then some false else (M_isSure vq5 σ6).bind (fun vq26 => if vq26 = 0 then some false else some true) : Option (Bool))).bind (fun bq21 => lt (if bq21 = true then 1 else 0 : Int32) (fun vq37 => (wr σ6 48 vq5 vq37).bind (fun σ39 => lt (vq5 + 1) (fun vq41 => some (.inl (vq41, σ39)))))))
noncomputable def M_findsStrong_b2 (vq43 : Int32) (σ44 : Mem) (vq63 : Int32) (vq64 : Int32) : Option ((Int32 × Int32) ⊕ (Int32)) := lt (if (M_all σ44) < vq64 then false else if vq63 = 0 then false else true : Bool) (fun bq73 => if bq73 = true then (rd σ44 48 vq64).bind (fun vq82 => lt (if vq82 = 0 then true else if (M_areCrossing vq43 vq64) = 0 then true else false : Bool) (fun bq84 => lt (if bq84 = true then 1 else 0 : Int32) (fun vq97 => lt (vq64 + 1) (fun vq99 => some (.inl (vq97, vq99)))))) else some (.inr vq63))
noncomputable def M_findsStrong_b3  (vq43 : Int32) (σ44 : Mem) : Option ((Int32 × Mem) ⊕ (Mem)) := if (M_all σ44) < vq43 then some (.inr σ44) else (rd σ44 48 vq43).bind (fun vq55 => lt (if vq55 = 1 then 1 else 0 : Int32) (fun vq62 => (lp (fun s => M_findsStrong_b2 vq43 σ44 s.1 s.2) fuel (vq62, 0)).bind (fun vq65 => lt (if vq65 = 0 then 0 else 1 : Int32) (fun vq107 => (wr σ44 54 vq43 vq107).bind (fun σ108 => lt (vq43 + 1) (fun vq110 => some (.inl (vq110, σ108))))))))
noncomputable def M_findsStrong  (σ : Mem) : Option (Mem) := (M_findsGo σ).bind (fun σ1 => (lp (fun s => M_findsStrong_b1 s.1 s.2) fuel (0, σ1)).bind (fun σ7 => (lp (fun s => M_findsStrong_b3 s.1 s.2) fuel (0, σ7)).bind (fun σ45 => some σ45)))
set_option maxHeartbeats 4000000 in
set_option maxRecDepth 100000 in
theorem c_M_findsStrong (l : Launch) (Y : Wx)   (σ : Mem) (o : Mem) (hf : M_findsStrong σ = some o) : Ct l Y 1 y_M_findsStrong b_M_findsStrong 4 none 5 [.ref (adr Y 43)] σ none o := by
  unfold M_findsStrong at hf
  refine ct_of (by decide) (Nat.le_of_ble_eq_true rfl) rfl (fun X hXl hX hR => ?_)
  subst hXl
  have hX : Fx X Y 1 b_M_findsStrong 4 R_M 5 := hX
  refine g_aload_n hX d_M_findsStrong_0 0 rfl ?_
  obtain ⟨σ1, h2, h3⟩ := obind hf
  refine g_callV hX [] [] mv_M_130 (c_M_findsGo X.2.1 Y σ _ h2) (by decide) iw_43 sh_43 rfl rfl rfl (Nat.le_of_ble_eq_true rfl) d_M_findsStrong_1 (fun h4 => ?_)
  show Gd X Y 1 σ1 [(0, .ref (adr Y 43))] 4 []
  refine g_iconst hX 0 d_M_findsStrong_4 (by decide) ?_
  refine g_istore_nV hX [(1, .int 0), (0, .ref (adr Y 43))] d_M_findsStrong_5 (by decide) rfl ?_
  obtain ⟨σ7, h11, h12⟩ := obind h3
  have KX12 : Gd X Y 1 σ7 [(0, .ref (adr Y 43))] 47 [] := by
    refine g_iconst hX 0 d_M_findsStrong_47 (by decide) ?_
    refine g_istore_nV hX [(1, .int 0), (0, .ref (adr Y 43))] d_M_findsStrong_48 (by decide) rfl ?_
    obtain ⟨σ45, h49, h50⟩ := obind h12
    have KX50 : Gd X Y 1 σ45 [] 137 [] := by
      cases h50
      exact g_return hX hR d_M_findsStrong_137
    refine g_sub (lv2 := [(0, .ref (adr Y 43)), (1, .int 0)]) [1, 0] rfl ?_
    refine g_loop (fun s => M_findsStrong_b3 s.1 s.2) (fun s => Gd X Y 1 s.2 [(0, .ref (adr Y 43)), (1, .int s.1)] 49 []) σ45 ?_ fuel (0, σ7) h49
    intro s y48 h48 h46 h47
    obtain ⟨vq43, σ44⟩ := s
    have h48 : M_findsStrong_b3 vq43 σ44 = some y48 := h48
    unfold M_findsStrong_b3 at h48
    show Gd X Y 1 σ44 [(0, .ref (adr Y 43)), (1, .int vq43)] 49 []
    refine g_iload_n hX d_M_findsStrong_49 1 rfl ?_
    refine g_aload_n hX d_M_findsStrong_50 0 rfl ?_
    refine g_callV hX [] [.int vq43] mv_M_110 (c_M_all X.2.1 Y σ44 _ rfl) (by decide) iw_43 sh_43 rfl rfl rfl (Nat.le_of_ble_eq_true rfl) d_M_findsStrong_51 (fun h52 => ?_)
    show Gd X Y 1 σ44 [(0, .ref (adr Y 43)), (1, .int vq43)] 54 [.int (M_all σ44), .int vq43]
    refine g_icmp_gt hX 137 d_M_findsStrong_54 (by decide) h48 (fun h53 => ?_) (fun h54 => ?_)
    · refine g_sub (lv2 := []) [] rfl ?_
      cases h53
      have h51 := h47 σ44 rfl
      cases h51
      exact KX50
    · refine g_aload_n hX d_M_findsStrong_57 0 rfl ?_
      refine g_getR hX iw_43 sh_43 rfl fl_M_26 d_M_findsStrong_58 ?_
      refine g_iload_n hX d_M_findsStrong_61 1 rfl ?_
      refine g_iaload hX iw_48 sh_48 d_M_findsStrong_62 h54 (fun vq55 h56 => ?_)
      refine g_iconst hX 1 d_M_findsStrong_63 (by decide) ?_
      obtain ⟨vq62, h57, h58⟩ := ltex h56
      have KJ58 : okR (some .boolean) (some (.int vq62)) → Gd X Y 1 σ44 [(0, .ref (adr Y 43)), (1, .int vq43)] 72 [.int vq62] := by
        intro hbvq62
        refine g_istore_nV hX [(2, .int vq62), (0, .ref (adr Y 43)), (1, .int vq43)] d_M_findsStrong_72 (by decide) rfl ?_
        refine g_iconst hX 0 d_M_findsStrong_73 (by decide) ?_
        refine g_istore_nV hX [(3, .int 0), (2, .int vq62), (0, .ref (adr Y 43)), (1, .int vq43)] d_M_findsStrong_74 (by decide) rfl ?_
        obtain ⟨vq65, h69, h70⟩ := obind h58
        have KX70 : Gd X Y 1 σ44 [(0, .ref (adr Y 43)), (1, .int vq43), (2, .int vq65)] 116 [] := by
          refine g_aload_n hX d_M_findsStrong_116 0 rfl ?_
          refine g_getR hX iw_43 sh_43 rfl fl_M_44 d_M_findsStrong_117 ?_
          refine g_iload_n hX d_M_findsStrong_120 1 rfl ?_
          refine g_iload_n hX d_M_findsStrong_121 2 rfl ?_
          obtain ⟨vq107, h102, h103⟩ := ltex h70
          have KJ103 : okR (some .boolean) (some (.int vq107)) → Gd X Y 1 σ44 [(0, .ref (adr Y 43)), (1, .int vq43)] 130 [.int vq107, .int vq43, .ref (adr Y 54)] := by
            intro hbvq107
            refine g_iastore hX iw_54 sh_54 d_M_findsStrong_130 h103 (fun σ108 h109 => ?_)
            refine g_iinc hX (fun vq110 => [(1, .int vq110), (0, .ref (adr Y 43))]) d_M_findsStrong_131 1 rfl rfl (by decide) (fun _ => rfl) h109 (fun vq110 h111 => ?_)
            refine g_goto hX 49 d_M_findsStrong_134 (by decide) ?_
            refine g_sub (lv2 := [(0, .ref (adr Y 43)), (1, .int vq110)]) [1, 0] rfl ?_
            cases h111
            exact h46 (vq110, σ108) rfl
          refine g_if_eq hX 129 d_M_findsStrong_122 (by decide) h102 (fun h105 => ?_) (fun h106 => ?_)
          · refine g_iconst hX 0 d_M_findsStrong_129 (by decide) ?_
            refine g_sub (lv2 := [(0, .ref (adr Y 43)), (1, .int vq43)]) [0, 1] rfl ?_
            cases h105
            exact KJ103 okB0
          · refine g_iconst hX 1 d_M_findsStrong_125 (by decide) ?_
            refine g_goto hX 130 d_M_findsStrong_126 (by decide) ?_
            refine g_sub (lv2 := [(0, .ref (adr Y 43)), (1, .int vq43)]) [0, 1] rfl ?_
            cases h106
            exact KJ103 okB1
        refine g_sub (lv2 := [(0, .ref (adr Y 43)), (1, .int vq43), (2, .int vq62), (3, .int 0)]) [2, 3, 1, 0] rfl ?_
        refine g_loop (fun s => M_findsStrong_b2 vq43 σ44 s.1 s.2) (fun s => Gd X Y 1 σ44 [(0, .ref (adr Y 43)), (1, .int vq43), (2, .int s.1), (3, .int s.2)] 75 []) vq65 ?_ fuel (vq62, 0) h69
        intro s y68 h68 h66 h67
        obtain ⟨vq63, vq64⟩ := s
        have h68 : M_findsStrong_b2 vq43 σ44 vq63 vq64 = some y68 := h68
        unfold M_findsStrong_b2 at h68
        show Gd X Y 1 σ44 [(0, .ref (adr Y 43)), (1, .int vq43), (2, .int vq63), (3, .int vq64)] 75 []
        refine g_iload_n hX d_M_findsStrong_75 3 rfl ?_
        refine g_aload_n hX d_M_findsStrong_76 0 rfl ?_
        refine g_callV hX [] [.int vq64] mv_M_110 (c_M_all X.2.1 Y σ44 _ rfl) (by decide) iw_43 sh_43 rfl rfl rfl (Nat.le_of_ble_eq_true rfl) d_M_findsStrong_77 (fun h72 => ?_)
        show Gd X Y 1 σ44 [(0, .ref (adr Y 43)), (1, .int vq43), (2, .int vq63), (3, .int vq64)] 80 [.int (M_all σ44), .int vq64]
        obtain ⟨bq73, h74, h75⟩ := ltex h68
        have Kbq73t : bq73 = true → Gd X Y 1 σ44 [(0, .ref (adr Y 43)), (1, .int vq43), (2, .int vq63), (3, .int vq64)] 87 [] := by
          intro h101
          have h80 := (if_pos h101).symm.trans h75
          refine g_aload_n hX d_M_findsStrong_87 0 rfl ?_
          refine g_getR hX iw_43 sh_43 rfl fl_M_26 d_M_findsStrong_88 ?_
          refine g_iload_n hX d_M_findsStrong_91 3 rfl ?_
          refine g_iaload hX iw_48 sh_48 d_M_findsStrong_92 h80 (fun vq82 h83 => ?_)
          obtain ⟨bq84, h85, h86⟩ := ltex h83
          obtain ⟨vq97, h92, h93⟩ := ltex h86
          have KJ93 : okR (some .boolean) (some (.int vq97)) → Gd X Y 1 σ44 [(0, .ref (adr Y 43)), (1, .int vq43), (3, .int vq64)] 109 [.int vq97] := by
            intro hbvq97
            refine g_istore_nV hX [(2, .int vq97), (0, .ref (adr Y 43)), (1, .int vq43), (3, .int vq64)] d_M_findsStrong_109 (by decide) rfl ?_
            refine g_iinc hX (fun vq99 => [(3, .int vq99), (2, .int vq97), (0, .ref (adr Y 43)), (1, .int vq43)]) d_M_findsStrong_110 3 rfl rfl (by decide) (fun _ => rfl) h93 (fun vq99 h100 => ?_)
            refine g_goto hX 75 d_M_findsStrong_113 (by decide) ?_
            refine g_sub (lv2 := [(0, .ref (adr Y 43)), (1, .int vq43), (2, .int vq97), (3, .int vq99)]) [2, 3, 1, 0] rfl ?_
            cases h100
            exact h66 (vq97, vq99) rfl
          have Kbq84t : bq84 = true → Gd X Y 1 σ44 [(0, .ref (adr Y 43)), (1, .int vq43), (2, .int vq63), (3, .int vq64)] 104 [] := by
            intro h98
            have h95 := (if_pos h98).symm.trans h92
            refine g_iconst hX 1 d_M_findsStrong_104 (by decide) ?_
            refine g_goto hX 109 d_M_findsStrong_105 (by decide) ?_
            refine g_sub (lv2 := [(0, .ref (adr Y 43)), (1, .int vq43), (3, .int vq64)]) [0, 1, 3] rfl ?_
            cases h95
            exact KJ93 okB1
          have Kbq84f : ¬ bq84 = true → Gd X Y 1 σ44 [(0, .ref (adr Y 43)), (1, .int vq43), (2, .int vq63), (3, .int vq64)] 108 [] := by
            intro h98
            have h96 := (if_neg h98).symm.trans h92
            refine g_iconst hX 0 d_M_findsStrong_108 (by decide) ?_
            refine g_sub (lv2 := [(0, .ref (adr Y 43)), (1, .int vq43), (3, .int vq64)]) [0, 1, 3] rfl ?_
            cases h96
            exact KJ93 okB0
          refine g_if_eq hX 104 d_M_findsStrong_93 (by decide) h85 (fun h87 => ?_) (fun h88 => ?_)
          · cases h87
            exact Kbq84t rfl
          · refine g_iload_n hX d_M_findsStrong_96 1 rfl ?_
            refine g_iload_n hX d_M_findsStrong_97 3 rfl ?_
            refine g_callS hX [.int vq43, .int vq64] [] mv_M_136 (c_M_areCrossing X.2.1 Y vq43 vq64 σ44 _ rfl) (by decide) rfl rfl (Nat.le_of_ble_eq_true rfl) d_M_findsStrong_98 (fun h89 => ?_)
            show Gd X Y 1 σ44 [(0, .ref (adr Y 43)), (1, .int vq43), (2, .int vq63), (3, .int vq64)] 101 [.int (M_areCrossing vq43 vq64)]
            refine g_if_ne hX 108 d_M_findsStrong_101 (by decide) h88 (fun h90 => ?_) (fun h91 => ?_)
            · cases h90
              exact Kbq84f (by decide)
            · cases h91
              exact Kbq84t rfl
        have Kbq73f : ¬ bq73 = true → Gd X Y 1 σ44 [(0, .ref (adr Y 43)), (1, .int vq43), (2, .int vq63), (3, .int vq64)] 116 [] := by
          intro h101
          have h81 := (if_neg h101).symm.trans h75
          refine g_sub (lv2 := [(0, .ref (adr Y 43)), (1, .int vq43), (2, .int vq63)]) [0, 1, 2] rfl ?_
          cases h81
          have h71 := h67 vq63 rfl
          cases h71
          exact KX70
        refine g_icmp_gt hX 116 d_M_findsStrong_80 (by decide) h74 (fun h76 => ?_) (fun h77 => ?_)
        · cases h76
          exact Kbq73f (by decide)
        · refine g_iload_n hX d_M_findsStrong_83 2 rfl ?_
          refine g_if_eq hX 116 d_M_findsStrong_84 (by decide) h77 (fun h78 => ?_) (fun h79 => ?_)
          · cases h78
            exact Kbq73f (by decide)
          · cases h79
            exact Kbq73t rfl
      refine g_icmp_ne hX 71 d_M_findsStrong_64 (by decide) h57 (fun h60 => ?_) (fun h61 => ?_)
      · refine g_iconst hX 0 d_M_findsStrong_71 (by decide) ?_
        refine g_sub (lv2 := [(0, .ref (adr Y 43)), (1, .int vq43)]) [0, 1] rfl ?_
        cases h60
        exact KJ58 okB0
      · refine g_iconst hX 1 d_M_findsStrong_67 (by decide) ?_
        refine g_goto hX 72 d_M_findsStrong_68 (by decide) ?_
        refine g_sub (lv2 := [(0, .ref (adr Y 43)), (1, .int vq43)]) [0, 1] rfl ?_
        cases h61
        exact KJ58 okB1
  refine g_sub (lv2 := [(0, .ref (adr Y 43)), (1, .int 0)]) [1, 0] rfl ?_
  refine g_loop (fun s => M_findsStrong_b1 s.1 s.2) (fun s => Gd X Y 1 s.2 [(0, .ref (adr Y 43)), (1, .int s.1)] 6 []) σ7 ?_ fuel (0, σ1) h11
  intro s y10 h10 h8 h9
  obtain ⟨vq5, σ6⟩ := s
  have h10 : M_findsStrong_b1 vq5 σ6 = some y10 := h10
  unfold M_findsStrong_b1 at h10
  show Gd X Y 1 σ6 [(0, .ref (adr Y 43)), (1, .int vq5)] 6 []
  refine g_iload_n hX d_M_findsStrong_6 1 rfl ?_
  refine g_aload_n hX d_M_findsStrong_7 0 rfl ?_
  refine g_callV hX [] [.int vq5] mv_M_110 (c_M_all X.2.1 Y σ6 _ rfl) (by decide) iw_43 sh_43 rfl rfl rfl (Nat.le_of_ble_eq_true rfl) d_M_findsStrong_8 (fun h14 => ?_)
  show Gd X Y 1 σ6 [(0, .ref (adr Y 43)), (1, .int vq5)] 11 [.int (M_all σ6), .int vq5]
  refine g_icmp_gt hX 47 d_M_findsStrong_11 (by decide) h10 (fun h15 => ?_) (fun h16 => ?_)
  · refine g_sub (lv2 := [(0, .ref (adr Y 43))]) [0] rfl ?_
    cases h15
    have h13 := h9 σ6 rfl
    cases h13
    exact KX12
  · refine g_aload_n hX d_M_findsStrong_14 0 rfl ?_
    refine g_getR hX iw_43 sh_43 rfl fl_M_26 d_M_findsStrong_15 ?_
    refine g_iload_n hX d_M_findsStrong_18 1 rfl ?_
    refine g_iload_n hX d_M_findsStrong_19 1 rfl ?_
    obtain ⟨vq17, h18, h19⟩ := obind h16
    refine g_callS hX [.int vq5] [.int vq5, .ref (adr Y 48)] mv_M_89 (c_M_many X.2.1 Y vq5 σ6 _ h18) (by decide) rfl rfl (Nat.le_of_ble_eq_true rfl) d_M_findsStrong_20 (fun h20 => ?_)
    show Gd X Y 1 σ6 [(0, .ref (adr Y 43)), (1, .int vq5)] 23 [.int vq17, .int vq5, .ref (adr Y 48)]
    refine g_iconst hX 1 d_M_findsStrong_23 (by decide) ?_
    obtain ⟨bq21, h22, h23⟩ := obind h19
    obtain ⟨vq37, h32, h33⟩ := ltex h23
    have KJ33 : okR (some .boolean) (some (.int vq37)) → Gd X Y 1 σ6 [(0, .ref (adr Y 43)), (1, .int vq5)] 40 [.int vq37, .int vq5, .ref (adr Y 48)] := by
      intro hbvq37
      refine g_iastore hX iw_48 sh_48 d_M_findsStrong_40 h33 (fun σ39 h40 => ?_)
      refine g_iinc hX (fun vq41 => [(1, .int vq41), (0, .ref (adr Y 43))]) d_M_findsStrong_41 1 rfl rfl (by decide) (fun _ => rfl) h40 (fun vq41 h42 => ?_)
      refine g_goto hX 6 d_M_findsStrong_44 (by decide) ?_
      refine g_sub (lv2 := [(0, .ref (adr Y 43)), (1, .int vq41)]) [1, 0] rfl ?_
      cases h42
      exact h8 (vq41, σ39) rfl
    have Kbq21t : bq21 = true → Gd X Y 1 σ6 [(0, .ref (adr Y 43)), (1, .int vq5)] 35 [.int vq5, .ref (adr Y 48)] := by
      intro h38
      have h35 := (if_pos h38).symm.trans h32
      refine g_iconst hX 1 d_M_findsStrong_35 (by decide) ?_
      refine g_goto hX 40 d_M_findsStrong_36 (by decide) ?_
      refine g_sub (lv2 := [(0, .ref (adr Y 43)), (1, .int vq5)]) [0, 1] rfl ?_
      cases h35
      exact KJ33 okB1
    have Kbq21f : ¬ bq21 = true → Gd X Y 1 σ6 [(0, .ref (adr Y 43)), (1, .int vq5)] 39 [.int vq5, .ref (adr Y 48)] := by
      intro h38
      have h36 := (if_neg h38).symm.trans h32
      refine g_iconst hX 0 d_M_findsStrong_39 (by decide) ?_
      refine g_sub (lv2 := [(0, .ref (adr Y 43)), (1, .int vq5)]) [0, 1] rfl ?_
      cases h36
      exact KJ33 okB0
    refine g_icmp_le hX 39 d_M_findsStrong_24 (by decide) h22 (fun h24 => ?_) (fun h25 => ?_)
    · cases h24
      exact Kbq21f (by decide)
    · refine g_aload_n hX d_M_findsStrong_27 0 rfl ?_
      refine g_iload_n hX d_M_findsStrong_28 1 rfl ?_
      obtain ⟨vq26, h27, h28⟩ := obind h25
      refine g_callV hX [.int vq5] [.int vq5, .ref (adr Y 48)] mv_M_133 (c_M_isSure X.2.1 Y vq5 σ6 _ h27) (by decide) iw_43 sh_43 rfl rfl rfl (Nat.le_of_ble_eq_true rfl) d_M_findsStrong_29 (fun h29 => ?_)
      show Gd X Y 1 σ6 [(0, .ref (adr Y 43)), (1, .int vq5)] 32 [.int vq26, .int vq5, .ref (adr Y 48)]
      refine g_if_eq hX 39 d_M_findsStrong_32 (by decide) h28 (fun h30 => ?_) (fun h31 => ?_)
      · cases h30
        exact Kbq21f (by decide)
      · cases h31
        exact Kbq21t rfl
noncomputable def M_partWith_b1 (x1 : Int32) (x2 : Int32) (σ : Mem) (vq3 : Int32) (vq4 : Int32) : Option ((Int32 × Int32) ⊕ (Int32)) := if x1 ≤ vq4 then some (.inr vq3) else (rd σ 54 vq4).bind (fun vq14 => lt (if vq14 = 1 then if (vq4 &&& (x1 ^^^ (-1))) = 0 then if (M_isIn vq4 x2) = 0 then false else true else false else false : Bool) (fun bq16 => lt (if bq16 = true then 1 else 0 : Int32) (fun vq31 => ((if vq31 = 0 then some false else (M_many vq4).bind (fun vq38 => (M_many vq3).bind (fun vq42 => if vq38 ≤ vq42 then some false else some true)) : Option (Bool))).bind (fun bq33 => lt (if bq33 = true then vq4 else vq3 : Int32) (fun vq53 => lt (vq4 + 1) (fun vq55 => some (.inl (vq53, vq55))))))))
noncomputable def M_partWith (x1 : Int32) (x2 : Int32) (σ : Mem) : Option (Int32) := lt (1 <<< (x2 &&& 31)) (fun vq1 => (lp (fun s => M_partWith_b1 x1 x2 σ s.1 s.2) fuel (vq1, 0)).bind (fun vq5 => some vq5))
set_option maxHeartbeats 4000000 in
set_option maxRecDepth 100000 in
theorem c_M_partWith (l : Launch) (Y : Wx) (x1 : Int32) (x2 : Int32)  (σ : Mem) (o : Int32) (hf : M_partWith x1 x2 σ = some o) : Ct l Y 1 y_M_partWith b_M_partWith 6 (some .int) 2 [.ref (adr Y 43), .int x1, .int x2] σ (some (.int o)) σ := by
  unfold M_partWith at hf
  refine ct_of (by decide) (Nat.le_of_ble_eq_true rfl) rfl (fun X hXl hX hR => ?_)
  subst hXl
  have hX : Fx X Y 1 b_M_partWith 6 R_M 2 := hX
  refine g_iconst hX 1 d_M_partWith_0 (by decide) ?_
  refine g_iload_n hX d_M_partWith_1 2 rfl ?_
  refine g_ishl hX d_M_partWith_2 ?_
  refine g_istore_n hX (fun vq1 => [(3, .int vq1), (0, .ref (adr Y 43)), (1, .int x1), (2, .int x2)]) d_M_partWith_3 (by decide) (fun _ => rfl) hf (fun vq1 h2 => ?_)
  refine g_iconst hX 0 d_M_partWith_4 (by decide) ?_
  refine g_istoreV hX [(4, .int 0), (3, .int vq1), (0, .ref (adr Y 43)), (1, .int x1), (2, .int x2)] d_M_partWith_5 (by decide) rfl ?_
  obtain ⟨vq5, h9, h10⟩ := obind h2
  have KX10 : Gd X Y 1 σ [(3, .int vq5)] 79 [] := by
    refine g_iload_n hX d_M_partWith_79 0 rfl ?_
    cases h10
    exact g_ireturn hX hR d_M_partWith_80
  refine g_sub (lv2 := [(0, .ref (adr Y 43)), (1, .int x1), (2, .int x2), (3, .int vq1), (4, .int 0)]) [2, 3, 4, 1, 0] rfl ?_
  refine g_loop (fun s => M_partWith_b1 x1 x2 σ s.1 s.2) (fun s => Gd X Y 1 σ [(0, .ref (adr Y 43)), (1, .int x1), (2, .int x2), (3, .int s.1), (4, .int s.2)] 7 []) vq5 ?_ fuel (vq1, 0) h9
  intro s y8 h8 h6 h7
  obtain ⟨vq3, vq4⟩ := s
  have h8 : M_partWith_b1 x1 x2 σ vq3 vq4 = some y8 := h8
  unfold M_partWith_b1 at h8
  show Gd X Y 1 σ [(0, .ref (adr Y 43)), (1, .int x1), (2, .int x2), (3, .int vq3), (4, .int vq4)] 7 []
  refine g_iload hX d_M_partWith_7 4 rfl ?_
  refine g_iload_n hX d_M_partWith_9 1 rfl ?_
  refine g_icmp_ge hX 79 d_M_partWith_10 (by decide) h8 (fun h12 => ?_) (fun h13 => ?_)
  · refine g_sub (lv2 := [(3, .int vq3)]) [3] rfl ?_
    cases h12
    have h11 := h7 vq3 rfl
    cases h11
    exact KX10
  · refine g_aload_n hX d_M_partWith_13 0 rfl ?_
    refine g_getR hX iw_43 sh_43 rfl fl_M_44 d_M_partWith_14 ?_
    refine g_iload hX d_M_partWith_17 4 rfl ?_
    refine g_iaload hX iw_54 sh_54 d_M_partWith_19 h13 (fun vq14 h15 => ?_)
    refine g_iconst hX 1 d_M_partWith_20 (by decide) ?_
    obtain ⟨bq16, h17, h18⟩ := ltex h15
    obtain ⟨vq31, h26, h27⟩ := ltex h18
    have KJ27 : okR (some .boolean) (some (.int vq31)) → Gd X Y 1 σ [(0, .ref (adr Y 43)), (1, .int x1), (2, .int x2), (3, .int vq3), (4, .int vq4)] 47 [.int vq31] := by
      intro hbvq31
      refine g_istoreV hX [(5, .int vq31), (0, .ref (adr Y 43)), (1, .int x1), (2, .int x2), (3, .int vq3), (4, .int vq4)] d_M_partWith_47 (by decide) rfl ?_
      refine g_iload hX d_M_partWith_49 0 rfl ?_
      obtain ⟨bq33, h34, h35⟩ := obind h27
      obtain ⟨vq53, h48, h49⟩ := ltex h35
      have KJ49 : Gd X Y 1 σ [(0, .ref (adr Y 43)), (1, .int x1), (2, .int x2), (4, .int vq4)] 72 [.int vq53] := by
        refine g_istore_nV hX [(3, .int vq53), (0, .ref (adr Y 43)), (1, .int x1), (2, .int x2), (4, .int vq4)] d_M_partWith_72 (by decide) rfl ?_
        refine g_iinc hX (fun vq55 => [(4, .int vq55), (3, .int vq53), (0, .ref (adr Y 43)), (1, .int x1), (2, .int x2)]) d_M_partWith_73 4 rfl rfl (by decide) (fun _ => rfl) h49 (fun vq55 h56 => ?_)
        refine g_goto hX 7 d_M_partWith_76 (by decide) ?_
        refine g_sub (lv2 := [(0, .ref (adr Y 43)), (1, .int x1), (2, .int x2), (3, .int vq53), (4, .int vq55)]) [2, 3, 4, 1, 0] rfl ?_
        cases h56
        exact h6 (vq53, vq55) rfl
      have Kbq33t : bq33 = true → Gd X Y 1 σ [(5, .int vq31), (0, .ref (adr Y 43)), (1, .int x1), (2, .int x2), (3, .int vq3), (4, .int vq4)] 66 [] := by
        intro h54
        have h51 := (if_pos h54).symm.trans h48
        refine g_iload hX d_M_partWith_66 5 rfl ?_
        refine g_goto hX 72 d_M_partWith_68 (by decide) ?_
        refine g_sub (lv2 := [(0, .ref (adr Y 43)), (1, .int x1), (2, .int x2), (4, .int vq4)]) [1, 2, 3, 5] rfl ?_
        cases h51
        exact KJ49
      have Kbq33f : ¬ bq33 = true → Gd X Y 1 σ [(5, .int vq31), (0, .ref (adr Y 43)), (1, .int x1), (2, .int x2), (3, .int vq3), (4, .int vq4)] 71 [] := by
        intro h54
        have h52 := (if_neg h54).symm.trans h48
        refine g_iload_n hX d_M_partWith_71 4 rfl ?_
        refine g_sub (lv2 := [(0, .ref (adr Y 43)), (1, .int x1), (2, .int x2), (4, .int vq4)]) [1, 2, 3, 5] rfl ?_
        cases h52
        exact KJ49
      refine g_if_eq hX 71 d_M_partWith_51 (by decide) h34 (fun h36 => ?_) (fun h37 => ?_)
      · cases h36
        exact Kbq33f (by decide)
      · refine g_iload hX d_M_partWith_54 5 rfl ?_
        obtain ⟨vq38, h39, h40⟩ := obind h37
        refine g_callS hX [.int vq4] [] mv_M_89 (c_M_many X.2.1 Y vq4 σ _ h39) (by decide) rfl rfl (Nat.le_of_ble_eq_true rfl) d_M_partWith_56 (fun h41 => ?_)
        show Gd X Y 1 σ [(5, .int vq31), (0, .ref (adr Y 43)), (1, .int x1), (2, .int x2), (3, .int vq3), (4, .int vq4)] 59 [.int vq38]
        refine g_iload_n hX d_M_partWith_59 4 rfl ?_
        obtain ⟨vq42, h43, h44⟩ := obind h40
        refine g_callS hX [.int vq3] [.int vq38] mv_M_89 (c_M_many X.2.1 Y vq3 σ _ h43) (by decide) rfl rfl (Nat.le_of_ble_eq_true rfl) d_M_partWith_60 (fun h45 => ?_)
        show Gd X Y 1 σ [(5, .int vq31), (0, .ref (adr Y 43)), (1, .int x1), (2, .int x2), (3, .int vq3), (4, .int vq4)] 63 [.int vq42, .int vq38]
        refine g_icmp_le hX 71 d_M_partWith_63 (by decide) h44 (fun h46 => ?_) (fun h47 => ?_)
        · cases h46
          exact Kbq33f (by decide)
        · cases h47
          exact Kbq33t rfl
    have Kbq16t : bq16 = true → Gd X Y 1 σ [(0, .ref (adr Y 43)), (1, .int x1), (2, .int x2), (3, .int vq3), (4, .int vq4)] 42 [] := by
      intro h32
      have h29 := (if_pos h32).symm.trans h26
      refine g_iconst hX 1 d_M_partWith_42 (by decide) ?_
      refine g_goto hX 47 d_M_partWith_43 (by decide) ?_
      refine g_sub (lv2 := [(0, .ref (adr Y 43)), (1, .int x1), (2, .int x2), (3, .int vq3), (4, .int vq4)]) [0, 1, 2, 3, 4] rfl ?_
      cases h29
      exact KJ27 okB1
    have Kbq16f : ¬ bq16 = true → Gd X Y 1 σ [(0, .ref (adr Y 43)), (1, .int x1), (2, .int x2), (3, .int vq3), (4, .int vq4)] 46 [] := by
      intro h32
      have h30 := (if_neg h32).symm.trans h26
      refine g_iconst hX 0 d_M_partWith_46 (by decide) ?_
      refine g_sub (lv2 := [(0, .ref (adr Y 43)), (1, .int x1), (2, .int x2), (3, .int vq3), (4, .int vq4)]) [0, 1, 2, 3, 4] rfl ?_
      cases h30
      exact KJ27 okB0
    refine g_icmp_ne hX 46 d_M_partWith_21 (by decide) h17 (fun h19 => ?_) (fun h20 => ?_)
    · cases h19
      exact Kbq16f (by decide)
    · refine g_iload hX d_M_partWith_24 4 rfl ?_
      refine g_iload_n hX d_M_partWith_26 1 rfl ?_
      refine g_iconst hX (-1) d_M_partWith_27 (by decide) ?_
      refine g_ixor hX d_M_partWith_28 ?_
      refine g_iand hX d_M_partWith_29 ?_
      refine g_if_ne hX 46 d_M_partWith_30 (by decide) h20 (fun h21 => ?_) (fun h22 => ?_)
      · cases h21
        exact Kbq16f (by decide)
      · refine g_iload hX d_M_partWith_33 4 rfl ?_
        refine g_iload_n hX d_M_partWith_35 2 rfl ?_
        refine g_callS hX [.int vq4, .int x2] [] mv_M_81 (c_M_isIn X.2.1 Y vq4 x2 σ _ rfl) (by decide) rfl rfl (Nat.le_of_ble_eq_true rfl) d_M_partWith_36 (fun h23 => ?_)
        show Gd X Y 1 σ [(0, .ref (adr Y 43)), (1, .int x1), (2, .int x2), (3, .int vq3), (4, .int vq4)] 39 [.int (M_isIn vq4 x2)]
        refine g_if_eq hX 46 d_M_partWith_39 (by decide) h22 (fun h24 => ?_) (fun h25 => ?_)
        · cases h24
          exact Kbq16f (by decide)
        · cases h25
          exact Kbq16t rfl
noncomputable def M_areBeside (x1 : Int32) (x2 : Int32) (σ : Mem) : Option (Int32) := ((if x1 = x2 then some false else (rd σ 48 (x1 ||| x2)).bind (fun vq6 => if vq6 = 1 then some true else some false) : Option (Bool))).bind (fun bq1 => lt (if bq1 = true then 1 else 0 : Int32) (fun vq15 => some vq15))
set_option maxHeartbeats 4000000 in
set_option maxRecDepth 100000 in
theorem c_M_areBeside (l : Launch) (Y : Wx) (x1 : Int32) (x2 : Int32)  (σ : Mem) (o : Int32) (hf : M_areBeside x1 x2 σ = some o) : Ct l Y 1 y_M_areBeside b_M_areBeside 3 (some .boolean) 0 [.ref (adr Y 43), .int x1, .int x2] σ (some (.int o)) σ := by
  unfold M_areBeside at hf
  refine ct_of (by decide) (Nat.le_of_ble_eq_true rfl) rfl (fun X hXl hX hR => ?_)
  subst hXl
  have hX : Fx X Y 1 b_M_areBeside 3 R_M 0 := hX
  refine g_iload_n hX d_M_areBeside_0 1 rfl ?_
  refine g_iload_n hX d_M_areBeside_1 2 rfl ?_
  obtain ⟨bq1, h2, h3⟩ := obind hf
  obtain ⟨vq15, h10, h11⟩ := ltex h3
  have KJ11 : okR (some .boolean) (some (.int vq15)) → Gd X Y 1 σ [] 22 [.int vq15] := by
    intro hbvq15
    cases h11
    exact g_zreturn hX hR hbvq15 d_M_areBeside_22
  have Kbq1t : bq1 = true → Gd X Y 1 σ [(0, .ref (adr Y 43)), (1, .int x1), (2, .int x2)] 17 [] := by
    intro h16
    have h13 := (if_pos h16).symm.trans h10
    refine g_iconst hX 1 d_M_areBeside_17 (by decide) ?_
    refine g_goto hX 22 d_M_areBeside_18 (by decide) ?_
    refine g_sub (lv2 := []) [] rfl ?_
    cases h13
    exact KJ11 okB1
  have Kbq1f : ¬ bq1 = true → Gd X Y 1 σ [(0, .ref (adr Y 43)), (1, .int x1), (2, .int x2)] 21 [] := by
    intro h16
    have h14 := (if_neg h16).symm.trans h10
    refine g_iconst hX 0 d_M_areBeside_21 (by decide) ?_
    refine g_sub (lv2 := []) [] rfl ?_
    cases h14
    exact KJ11 okB0
  refine g_icmp_eq hX 21 d_M_areBeside_2 (by decide) h2 (fun h4 => ?_) (fun h5 => ?_)
  · cases h4
    exact Kbq1f (by decide)
  · refine g_aload_n hX d_M_areBeside_5 0 rfl ?_
    refine g_getR hX iw_43 sh_43 rfl fl_M_26 d_M_areBeside_6 ?_
    refine g_iload_n hX d_M_areBeside_9 1 rfl ?_
    refine g_iload_n hX d_M_areBeside_10 2 rfl ?_
    refine g_ior hX d_M_areBeside_11 ?_
    refine g_iaload hX iw_48 sh_48 d_M_areBeside_12 h5 (fun vq6 h7 => ?_)
    refine g_iconst hX 1 d_M_areBeside_13 (by decide) ?_
    refine g_icmp_ne hX 21 d_M_areBeside_14 (by decide) h7 (fun h8 => ?_) (fun h9 => ?_)
    · cases h8
      exact Kbq1f (by decide)
    · cases h9
      exact Kbq1t rfl
noncomputable def M_swaps (x1 : Int32) (x2 : Int32) (σ : Mem) : Option (Mem) := (rd σ 52 x1).bind (fun vq1 => (rd σ 52 x2).bind (fun vq3 => (wr σ 52 x1 vq3).bind (fun σ5 => (wr σ5 52 x2 vq1).bind (fun σ7 => some σ7))))
set_option maxHeartbeats 4000000 in
set_option maxRecDepth 100000 in
theorem c_M_swaps (l : Launch) (Y : Wx) (x1 : Int32) (x2 : Int32)  (σ : Mem) (o : Mem) (hf : M_swaps x1 x2 σ = some o) : Ct l Y 1 y_M_swaps b_M_swaps 4 none 0 [.ref (adr Y 43), .int x1, .int x2] σ none o := by
  unfold M_swaps at hf
  refine ct_of (by decide) (Nat.le_of_ble_eq_true rfl) rfl (fun X hXl hX hR => ?_)
  subst hXl
  have hX : Fx X Y 1 b_M_swaps 4 R_M 0 := hX
  refine g_aload_n hX d_M_swaps_0 0 rfl ?_
  refine g_getR hX iw_43 sh_43 rfl fl_M_38 d_M_swaps_1 ?_
  refine g_iload_n hX d_M_swaps_4 1 rfl ?_
  refine g_iaload hX iw_52 sh_52 d_M_swaps_5 hf (fun vq1 h2 => ?_)
  refine g_istore_nV hX [(3, .int vq1), (0, .ref (adr Y 43)), (1, .int x1), (2, .int x2)] d_M_swaps_6 (by decide) rfl ?_
  refine g_aload_n hX d_M_swaps_7 1 rfl ?_
  refine g_getR hX iw_43 sh_43 rfl fl_M_38 d_M_swaps_8 ?_
  refine g_iload_n hX d_M_swaps_11 2 rfl ?_
  refine g_aload_n hX d_M_swaps_12 1 rfl ?_
  refine g_getR hX iw_43 sh_43 rfl fl_M_38 d_M_swaps_13 ?_
  refine g_iload_n hX d_M_swaps_16 3 rfl ?_
  refine g_iaload hX iw_52 sh_52 d_M_swaps_17 h2 (fun vq3 h4 => ?_)
  refine g_iastore hX iw_52 sh_52 d_M_swaps_18 h4 (fun σ5 h6 => ?_)
  refine g_aload_n hX d_M_swaps_19 1 rfl ?_
  refine g_getR hX iw_43 sh_43 rfl fl_M_38 d_M_swaps_20 ?_
  refine g_iload_n hX d_M_swaps_23 3 rfl ?_
  refine g_iload_n hX d_M_swaps_24 0 rfl ?_
  refine g_iastore hX iw_52 sh_52 d_M_swaps_25 h6 (fun σ7 h8 => ?_)
  cases h8
  exact g_return hX hR d_M_swaps_26
noncomputable def M_turnsRight_b1 (σ : Mem) (vq1 : Int32) (vq3 : Int32) (vq6 : Int32) (vq16 : Int32) (vq17 : Int32) : Option ((Int32 × Int32) ⊕ (Int32)) := if vq1 ≤ vq17 then some (.inr vq16) else (rd σ 52 (vq3 + vq6)).bind (fun vq27 => (rd σ 52 (vq3 + vq17)).bind (fun vq29 => (M_areBeside vq27 vq29 σ).bind (fun vq31 => lt (if vq31 = 0 then 0 else 1 : Int32) (fun vq40 => lt (vq16 + vq40) (fun vq41 => lt (vq17 + 1) (fun vq43 => some (.inl (vq41, vq43))))))))
noncomputable def M_turnsRight_b2 (σ : Mem) (vq1 : Int32) (vq3 : Int32) (vq5 : Int32) (vq6 : Int32) : Option ((Int32 × Int32) ⊕ (Int32)) := if vq1 ≤ vq6 then some (.inr vq5) else (lp (fun s => M_turnsRight_b1 σ vq1 vq3 vq6 s.1 s.2) fuel (0, 0)).bind (fun vq18 => lt (if vq18 = 1 then if vq5 = (-1) then true else false else false : Bool) (fun bq45 => lt (if bq45 = true then vq6 else vq5 : Int32) (fun vq57 => lt (vq6 + 1) (fun vq59 => some (.inl (vq57, vq59))))))
noncomputable def M_turnsRight_b3 (vq1 : Int32) (vq3 : Int32) (vq65 : Int32) (vq76 : Int32) (vq77 : Int32) (σ78 : Mem) : Option ((Int32 × Int32 × Mem) ⊕ (Mem)) := lt (if vq1 ≤ vq77 then false else if vq76 = 0 then true else false : Bool) (fun bq86 => if bq86 = true then (rd σ78 52 ((vq3 + vq65) - 1)).bind (fun vq95 => (rd σ78 52 (vq3 + vq77)).bind (fun vq97 => (M_areBeside vq95 vq97 σ78).bind (fun vq99 => ((if vq99 = 0 then some σ78 else (M_swaps (vq3 + vq65) (vq3 + vq77) σ78).bind (fun σ109 => some σ109) : Option (Mem))).bind (fun σ108 => lt (vq77 + 1) (fun vq113 => some (.inl (vq99, vq113, σ108))))))) else some (.inr σ78))
noncomputable def M_turnsRight_b4 (vq1 : Int32) (vq3 : Int32) (vq65 : Int32) (σ66 : Mem) : Option ((Int32 × Mem) ⊕ (Mem)) := if vq1 ≤ vq65 then some (.inr σ66) else (lp (fun s => M_turnsRight_b3 vq1 vq3 vq65 s.1 s.2.1 s.2.2) fuel (0, vq65, σ66)).bind (fun σ79 => lt (vq65 + 1) (fun vq116 => some (.inl (vq116, σ79))))
noncomputable def M_turnsRight_b5 (vq1 : Int32) (vq3 : Int32) (vq135 : Int32) (vq136 : Int32) (σ137 : Mem) : Option ((Int32 × Mem) ⊕ (Mem)) := (dv vq1 2).bind (fun vq145 => lt (if vq145 ≤ vq136 then false else if vq135 = 0 then false else true : Bool) (fun bq147 => if bq147 = true then (M_swaps (vq3 + vq136) (((vq3 + vq1) - 1) - vq136) σ137).bind (fun σ156 => lt (vq136 + 1) (fun vq160 => some (.inl (vq160, σ156)))) else some (.inr σ137)))
noncomputable def M_turnsRight (x1 : Int32) (σ : Mem) : Option (Mem) := (rd σ 51 x1).bind (fun vq1 => lt (8 * x1) (fun vq3 => (lp (fun s => M_turnsRight_b2 σ vq1 vq3 s.1 s.2) fuel ((-1), 0)).bind (fun vq7 => (M_swaps vq3 (vq3 + vq7) σ).bind (fun σ61 => (lp (fun s => M_turnsRight_b4 vq1 vq3 s.1 s.2) fuel (1, σ61)).bind (fun σ67 => (rd σ67 52 vq3).bind (fun vq118 => (M_least vq118).bind (fun vq120 => (rd σ67 52 ((vq3 + vq1) - 1)).bind (fun vq124 => (M_least vq124).bind (fun vq126 => lt (if vq120 ≤ vq126 then 0 else 1 : Int32) (fun vq135 => (lp (fun s => M_turnsRight_b5 vq1 vq3 vq135 s.1 s.2) fuel (0, σ67)).bind (fun σ138 => some σ138)))))))))))
set_option maxHeartbeats 4000000 in
set_option maxRecDepth 100000 in
theorem c_M_turnsRight (l : Launch) (Y : Wx) (x1 : Int32)  (σ : Mem) (o : Mem) (hf : M_turnsRight x1 σ = some o) : Ct l Y 1 y_M_turnsRight b_M_turnsRight 8 none 2 [.ref (adr Y 43), .int x1] σ none o := by
  unfold M_turnsRight at hf
  refine ct_of (by decide) (Nat.le_of_ble_eq_true rfl) rfl (fun X hXl hX hR => ?_)
  subst hXl
  have hX : Fx X Y 1 b_M_turnsRight 8 R_M 2 := hX
  refine g_aload_n hX d_M_turnsRight_0 0 rfl ?_
  refine g_getR hX iw_43 sh_43 rfl fl_M_35 d_M_turnsRight_1 ?_
  refine g_iload_n hX d_M_turnsRight_4 1 rfl ?_
  refine g_iaload hX iw_51 sh_51 d_M_turnsRight_5 hf (fun vq1 h2 => ?_)
  refine g_istore_nV hX [(2, .int vq1), (0, .ref (adr Y 43)), (1, .int x1)] d_M_turnsRight_6 (by decide) rfl ?_
  refine g_bipush hX 8 d_M_turnsRight_7 (by decide) ?_
  refine g_iload_n hX d_M_turnsRight_9 2 rfl ?_
  refine g_imul hX d_M_turnsRight_10 ?_
  refine g_istore_n hX (fun vq3 => [(3, .int vq3), (2, .int vq1), (0, .ref (adr Y 43)), (1, .int x1)]) d_M_turnsRight_11 (by decide) (fun _ => rfl) h2 (fun vq3 h4 => ?_)
  refine g_iconst hX (-1) d_M_turnsRight_12 (by decide) ?_
  refine g_istoreV hX [(4, .int (-1)), (3, .int vq3), (2, .int vq1), (0, .ref (adr Y 43)), (1, .int x1)] d_M_turnsRight_13 (by decide) rfl ?_
  refine g_iconst hX 0 d_M_turnsRight_15 (by decide) ?_
  refine g_istoreV hX [(5, .int 0), (4, .int (-1)), (3, .int vq3), (2, .int vq1), (0, .ref (adr Y 43)), (1, .int x1)] d_M_turnsRight_16 (by decide) rfl ?_
  obtain ⟨vq7, h11, h12⟩ := obind h4
  have KX12 : Gd X Y 1 σ [(0, .ref (adr Y 43)), (2, .int vq1), (3, .int vq3), (4, .int vq7)] 104 [] := by
    refine g_aload_n hX d_M_turnsRight_104 0 rfl ?_
    refine g_iload_n hX d_M_turnsRight_105 2 rfl ?_
    refine g_iload_n hX d_M_turnsRight_106 2 rfl ?_
    refine g_iload hX d_M_turnsRight_107 3 rfl ?_
    refine g_iadd hX d_M_turnsRight_109 ?_
    obtain ⟨σ61, h62, h63⟩ := obind h12
    refine g_callV hX [.int vq3, .int (vq3 + vq7)] [] mv_M_152 (c_M_swaps X.2.1 Y vq3 (vq3 + vq7) σ _ h62) (by decide) iw_43 sh_43 rfl rfl rfl (Nat.le_of_ble_eq_true rfl) d_M_turnsRight_110 (fun h64 => ?_)
    show Gd X Y 1 σ61 [(0, .ref (adr Y 43)), (2, .int vq1), (3, .int vq3), (4, .int vq7)] 113 []
    refine g_iconst hX 1 d_M_turnsRight_113 (by decide) ?_
    refine g_istoreV hX [(5, .int 1), (0, .ref (adr Y 43)), (2, .int vq1), (3, .int vq3), (4, .int vq7)] d_M_turnsRight_114 (by decide) rfl ?_
    obtain ⟨σ67, h71, h72⟩ := obind h63
    have KX72 : Gd X Y 1 σ67 [(0, .ref (adr Y 43)), (2, .int vq1), (3, .int vq3)] 195 [] := by
      refine g_aload_n hX d_M_turnsRight_195 0 rfl ?_
      refine g_getR hX iw_43 sh_43 rfl fl_M_38 d_M_turnsRight_196 ?_
      refine g_iload_n hX d_M_turnsRight_199 2 rfl ?_
      refine g_iaload hX iw_52 sh_52 d_M_turnsRight_200 h72 (fun vq118 h119 => ?_)
      obtain ⟨vq120, h121, h122⟩ := obind h119
      refine g_callS hX [.int vq118] [] mv_M_142 (c_M_least X.2.1 Y vq118 σ67 _ h121) (by decide) rfl rfl (Nat.le_of_ble_eq_true rfl) d_M_turnsRight_201 (fun h123 => ?_)
      show Gd X Y 1 σ67 [(0, .ref (adr Y 43)), (2, .int vq1), (3, .int vq3)] 204 [.int vq120]
      refine g_aload_n hX d_M_turnsRight_204 0 rfl ?_
      refine g_getR hX iw_43 sh_43 rfl fl_M_38 d_M_turnsRight_205 ?_
      refine g_iload_n hX d_M_turnsRight_208 2 rfl ?_
      refine g_iload_n hX d_M_turnsRight_209 1 rfl ?_
      refine g_iadd hX d_M_turnsRight_210 ?_
      refine g_iconst hX 1 d_M_turnsRight_211 (by decide) ?_
      refine g_isub hX d_M_turnsRight_212 ?_
      refine g_iaload hX iw_52 sh_52 d_M_turnsRight_213 h122 (fun vq124 h125 => ?_)
      obtain ⟨vq126, h127, h128⟩ := obind h125
      refine g_callS hX [.int vq124] [.int vq120] mv_M_142 (c_M_least X.2.1 Y vq124 σ67 _ h127) (by decide) rfl rfl (Nat.le_of_ble_eq_true rfl) d_M_turnsRight_214 (fun h129 => ?_)
      show Gd X Y 1 σ67 [(0, .ref (adr Y 43)), (2, .int vq1), (3, .int vq3)] 217 [.int vq126, .int vq120]
      obtain ⟨vq135, h130, h131⟩ := ltex h128
      have KJ131 : okR (some .boolean) (some (.int vq135)) → Gd X Y 1 σ67 [(0, .ref (adr Y 43)), (2, .int vq1), (3, .int vq3)] 225 [.int vq135] := by
        intro hbvq135
        refine g_istoreV hX [(5, .int vq135), (0, .ref (adr Y 43)), (2, .int vq1), (3, .int vq3)] d_M_turnsRight_225 (by decide) rfl ?_
        refine g_iconst hX 0 d_M_turnsRight_227 (by decide) ?_
        refine g_istoreV hX [(6, .int 0), (5, .int vq135), (0, .ref (adr Y 43)), (2, .int vq1), (3, .int vq3)] d_M_turnsRight_228 (by decide) rfl ?_
        obtain ⟨σ138, h142, h143⟩ := obind h131
        have KX143 : Gd X Y 1 σ138 [] 265 [] := by
          cases h143
          exact g_return hX hR d_M_turnsRight_265
        refine g_sub (lv2 := [(0, .ref (adr Y 43)), (2, .int vq1), (3, .int vq3), (5, .int vq135), (6, .int 0)]) [2, 3, 4, 1, 0] rfl ?_
        refine g_loop (fun s => M_turnsRight_b5 vq1 vq3 vq135 s.1 s.2) (fun s => Gd X Y 1 s.2 [(0, .ref (adr Y 43)), (2, .int vq1), (3, .int vq3), (5, .int vq135), (6, .int s.1)] 230 []) σ138 ?_ fuel (0, σ67) h142
        intro s y141 h141 h139 h140
        obtain ⟨vq136, σ137⟩ := s
        have h141 : M_turnsRight_b5 vq1 vq3 vq135 vq136 σ137 = some y141 := h141
        unfold M_turnsRight_b5 at h141
        show Gd X Y 1 σ137 [(0, .ref (adr Y 43)), (2, .int vq1), (3, .int vq3), (5, .int vq135), (6, .int vq136)] 230 []
        refine g_iload hX d_M_turnsRight_230 4 rfl ?_
        refine g_iload_n hX d_M_turnsRight_232 1 rfl ?_
        refine g_iconst hX 2 d_M_turnsRight_233 (by decide) ?_
        refine g_idiv hX d_M_turnsRight_234 h141 (fun vq145 h146 => ?_)
        obtain ⟨bq147, h148, h149⟩ := ltex h146
        have Kbq147t : bq147 = true → Gd X Y 1 σ137 [(0, .ref (adr Y 43)), (2, .int vq1), (3, .int vq3), (5, .int vq135), (6, .int vq136)] 243 [] := by
          intro h162
          have h154 := (if_pos h162).symm.trans h149
          refine g_aload_n hX d_M_turnsRight_243 0 rfl ?_
          refine g_iload_n hX d_M_turnsRight_244 2 rfl ?_
          refine g_iload hX d_M_turnsRight_245 4 rfl ?_
          refine g_iadd hX d_M_turnsRight_247 ?_
          refine g_iload_n hX d_M_turnsRight_248 2 rfl ?_
          refine g_iload_n hX d_M_turnsRight_249 1 rfl ?_
          refine g_iadd hX d_M_turnsRight_250 ?_
          refine g_iconst hX 1 d_M_turnsRight_251 (by decide) ?_
          refine g_isub hX d_M_turnsRight_252 ?_
          refine g_iload hX d_M_turnsRight_253 4 rfl ?_
          refine g_isub hX d_M_turnsRight_255 ?_
          obtain ⟨σ156, h157, h158⟩ := obind h154
          refine g_callV hX [.int (vq3 + vq136), .int (((vq3 + vq1) - 1) - vq136)] [] mv_M_152 (c_M_swaps X.2.1 Y (vq3 + vq136) (((vq3 + vq1) - 1) - vq136) σ137 _ h157) (by decide) iw_43 sh_43 rfl rfl rfl (Nat.le_of_ble_eq_true rfl) d_M_turnsRight_256 (fun h159 => ?_)
          show Gd X Y 1 σ156 [(0, .ref (adr Y 43)), (2, .int vq1), (3, .int vq3), (5, .int vq135), (6, .int vq136)] 259 []
          refine g_iinc hX (fun vq160 => [(6, .int vq160), (0, .ref (adr Y 43)), (2, .int vq1), (3, .int vq3), (5, .int vq135)]) d_M_turnsRight_259 4 rfl rfl (by decide) (fun _ => rfl) h158 (fun vq160 h161 => ?_)
          refine g_goto hX 230 d_M_turnsRight_262 (by decide) ?_
          refine g_sub (lv2 := [(0, .ref (adr Y 43)), (2, .int vq1), (3, .int vq3), (5, .int vq135), (6, .int vq160)]) [1, 2, 3, 4, 0] rfl ?_
          cases h161
          exact h139 (vq160, σ156) rfl
        have Kbq147f : ¬ bq147 = true → Gd X Y 1 σ137 [(0, .ref (adr Y 43)), (2, .int vq1), (3, .int vq3), (5, .int vq135), (6, .int vq136)] 265 [] := by
          intro h162
          have h155 := (if_neg h162).symm.trans h149
          refine g_sub (lv2 := []) [] rfl ?_
          cases h155
          have h144 := h140 σ137 rfl
          cases h144
          exact KX143
        refine g_icmp_ge hX 265 d_M_turnsRight_235 (by decide) h148 (fun h150 => ?_) (fun h151 => ?_)
        · cases h150
          exact Kbq147f (by decide)
        · refine g_iload hX d_M_turnsRight_238 3 rfl ?_
          refine g_if_eq hX 265 d_M_turnsRight_240 (by decide) h151 (fun h152 => ?_) (fun h153 => ?_)
          · cases h152
            exact Kbq147f (by decide)
          · cases h153
            exact Kbq147t rfl
      refine g_icmp_le hX 224 d_M_turnsRight_217 (by decide) h130 (fun h133 => ?_) (fun h134 => ?_)
      · refine g_iconst hX 0 d_M_turnsRight_224 (by decide) ?_
        refine g_sub (lv2 := [(0, .ref (adr Y 43)), (2, .int vq1), (3, .int vq3)]) [0, 1, 2] rfl ?_
        cases h133
        exact KJ131 okB0
      · refine g_iconst hX 1 d_M_turnsRight_220 (by decide) ?_
        refine g_goto hX 225 d_M_turnsRight_221 (by decide) ?_
        refine g_sub (lv2 := [(0, .ref (adr Y 43)), (2, .int vq1), (3, .int vq3)]) [0, 1, 2] rfl ?_
        cases h134
        exact KJ131 okB1
    refine g_sub (lv2 := [(0, .ref (adr Y 43)), (2, .int vq1), (3, .int vq3), (5, .int 1)]) [1, 2, 3, 0] rfl ?_
    refine g_loop (fun s => M_turnsRight_b4 vq1 vq3 s.1 s.2) (fun s => Gd X Y 1 s.2 [(0, .ref (adr Y 43)), (2, .int vq1), (3, .int vq3), (5, .int s.1)] 116 []) σ67 ?_ fuel (1, σ61) h71
    intro s y70 h70 h68 h69
    obtain ⟨vq65, σ66⟩ := s
    have h70 : M_turnsRight_b4 vq1 vq3 vq65 σ66 = some y70 := h70
    unfold M_turnsRight_b4 at h70
    show Gd X Y 1 σ66 [(0, .ref (adr Y 43)), (2, .int vq1), (3, .int vq3), (5, .int vq65)] 116 []
    refine g_iload hX d_M_turnsRight_116 3 rfl ?_
    refine g_iload_n hX d_M_turnsRight_118 1 rfl ?_
    refine g_icmp_ge hX 195 d_M_turnsRight_119 (by decide) h70 (fun h74 => ?_) (fun h75 => ?_)
    · refine g_sub (lv2 := [(0, .ref (adr Y 43)), (2, .int vq1), (3, .int vq3)]) [0, 1, 2] rfl ?_
      cases h74
      have h73 := h69 σ66 rfl
      cases h73
      exact KX72
    · refine g_iconst hX 0 d_M_turnsRight_122 (by decide) ?_
      refine g_istoreV hX [(6, .int 0), (0, .ref (adr Y 43)), (2, .int vq1), (3, .int vq3), (5, .int vq65)] d_M_turnsRight_123 (by decide) rfl ?_
      refine g_iload hX d_M_turnsRight_125 4 rfl ?_
      refine g_istoreV hX [(7, .int vq65), (6, .int 0), (0, .ref (adr Y 43)), (2, .int vq1), (3, .int vq3), (5, .int vq65)] d_M_turnsRight_127 (by decide) rfl ?_
      obtain ⟨σ79, h83, h84⟩ := obind h75
      have KX84 : Gd X Y 1 σ79 [(0, .ref (adr Y 43)), (2, .int vq1), (3, .int vq3), (5, .int vq65)] 189 [] := by
        refine g_iinc hX (fun vq116 => [(5, .int vq116), (0, .ref (adr Y 43)), (2, .int vq1), (3, .int vq3)]) d_M_turnsRight_189 3 rfl rfl (by decide) (fun _ => rfl) h84 (fun vq116 h117 => ?_)
        refine g_goto hX 116 d_M_turnsRight_192 (by decide) ?_
        refine g_sub (lv2 := [(0, .ref (adr Y 43)), (2, .int vq1), (3, .int vq3), (5, .int vq116)]) [1, 2, 3, 0] rfl ?_
        cases h117
        exact h68 (vq116, σ79) rfl
      refine g_sub (lv2 := [(0, .ref (adr Y 43)), (2, .int vq1), (3, .int vq3), (5, .int vq65), (6, .int 0), (7, .int vq65)]) [2, 3, 4, 5, 1, 0] rfl ?_
      refine g_loop (fun s => M_turnsRight_b3 vq1 vq3 vq65 s.1 s.2.1 s.2.2) (fun s => Gd X Y 1 s.2.2 [(0, .ref (adr Y 43)), (2, .int vq1), (3, .int vq3), (5, .int vq65), (6, .int s.1), (7, .int s.2.1)] 129 []) σ79 ?_ fuel (0, vq65, σ66) h83
      intro s y82 h82 h80 h81
      obtain ⟨vq76, vq77, σ78⟩ := s
      have h82 : M_turnsRight_b3 vq1 vq3 vq65 vq76 vq77 σ78 = some y82 := h82
      unfold M_turnsRight_b3 at h82
      show Gd X Y 1 σ78 [(0, .ref (adr Y 43)), (2, .int vq1), (3, .int vq3), (5, .int vq65), (6, .int vq76), (7, .int vq77)] 129 []
      refine g_iload hX d_M_turnsRight_129 5 rfl ?_
      refine g_iload_n hX d_M_turnsRight_131 1 rfl ?_
      obtain ⟨bq86, h87, h88⟩ := ltex h82
      have Kbq86t : bq86 = true → Gd X Y 1 σ78 [(0, .ref (adr Y 43)), (2, .int vq1), (3, .int vq3), (5, .int vq65), (6, .int vq76), (7, .int vq77)] 140 [] := by
        intro h115
        have h93 := (if_pos h115).symm.trans h88
        refine g_aload_n hX d_M_turnsRight_140 0 rfl ?_
        refine g_aload_n hX d_M_turnsRight_141 0 rfl ?_
        refine g_getR hX iw_43 sh_43 rfl fl_M_38 d_M_turnsRight_142 ?_
        refine g_iload_n hX d_M_turnsRight_145 2 rfl ?_
        refine g_iload hX d_M_turnsRight_146 3 rfl ?_
        refine g_iadd hX d_M_turnsRight_148 ?_
        refine g_iconst hX 1 d_M_turnsRight_149 (by decide) ?_
        refine g_isub hX d_M_turnsRight_150 ?_
        refine g_iaload hX iw_52 sh_52 d_M_turnsRight_151 h93 (fun vq95 h96 => ?_)
        refine g_aload_n hX d_M_turnsRight_152 0 rfl ?_
        refine g_getR hX iw_43 sh_43 rfl fl_M_38 d_M_turnsRight_153 ?_
        refine g_iload_n hX d_M_turnsRight_156 2 rfl ?_
        refine g_iload hX d_M_turnsRight_157 5 rfl ?_
        refine g_iadd hX d_M_turnsRight_159 ?_
        refine g_iaload hX iw_52 sh_52 d_M_turnsRight_160 h96 (fun vq97 h98 => ?_)
        obtain ⟨vq99, h100, h101⟩ := obind h98
        refine g_callV hX [.int vq95, .int vq97] [] mv_M_149 (c_M_areBeside X.2.1 Y vq95 vq97 σ78 _ h100) (by decide) iw_43 sh_43 rfl rfl rfl (Nat.le_of_ble_eq_true rfl) d_M_turnsRight_161 (fun h102 => ?_)
        show Gd X Y 1 σ78 [(0, .ref (adr Y 43)), (2, .int vq1), (3, .int vq3), (5, .int vq65), (6, .int vq76), (7, .int vq77)] 164 [.int vq99]
        refine g_istoreV hX [(6, .int vq99), (0, .ref (adr Y 43)), (2, .int vq1), (3, .int vq3), (5, .int vq65), (7, .int vq77)] d_M_turnsRight_164 (by decide) rfl ?_
        refine g_iload hX d_M_turnsRight_166 0 rfl ?_
        obtain ⟨σ108, h103, h104⟩ := obind h101
        have KJ104 : Gd X Y 1 σ108 [(0, .ref (adr Y 43)), (2, .int vq1), (3, .int vq3), (5, .int vq65), (6, .int vq99), (7, .int vq77)] 183 [] := by
          refine g_iinc hX (fun vq113 => [(7, .int vq113), (0, .ref (adr Y 43)), (2, .int vq1), (3, .int vq3), (5, .int vq65), (6, .int vq99)]) d_M_turnsRight_183 5 rfl rfl (by decide) (fun _ => rfl) h104 (fun vq113 h114 => ?_)
          refine g_goto hX 129 d_M_turnsRight_186 (by decide) ?_
          refine g_sub (lv2 := [(0, .ref (adr Y 43)), (2, .int vq1), (3, .int vq3), (5, .int vq65), (6, .int vq99), (7, .int vq113)]) [1, 2, 3, 4, 5, 0] rfl ?_
          cases h114
          exact h80 (vq99, vq113, σ108) rfl
        refine g_if_eq hX 183 d_M_turnsRight_168 (by decide) h103 (fun h106 => ?_) (fun h107 => ?_)
        · refine g_sub (lv2 := [(0, .ref (adr Y 43)), (2, .int vq1), (3, .int vq3), (5, .int vq65), (6, .int vq99), (7, .int vq77)]) [1, 2, 3, 4, 0, 5] rfl ?_
          cases h106
          exact KJ104
        · refine g_aload_n hX d_M_turnsRight_171 1 rfl ?_
          refine g_iload_n hX d_M_turnsRight_172 3 rfl ?_
          refine g_iload hX d_M_turnsRight_173 4 rfl ?_
          refine g_iadd hX d_M_turnsRight_175 ?_
          refine g_iload_n hX d_M_turnsRight_176 3 rfl ?_
          refine g_iload hX d_M_turnsRight_177 5 rfl ?_
          refine g_iadd hX d_M_turnsRight_179 ?_
          obtain ⟨σ109, h110, h111⟩ := obind h107
          refine g_callV hX [.int (vq3 + vq65), .int (vq3 + vq77)] [] mv_M_152 (c_M_swaps X.2.1 Y (vq3 + vq65) (vq3 + vq77) σ78 _ h110) (by decide) iw_43 sh_43 rfl rfl rfl (Nat.le_of_ble_eq_true rfl) d_M_turnsRight_180 (fun h112 => ?_)
          show Gd X Y 1 σ109 [(6, .int vq99), (0, .ref (adr Y 43)), (2, .int vq1), (3, .int vq3), (5, .int vq65), (7, .int vq77)] 183 []
          refine g_sub (lv2 := [(0, .ref (adr Y 43)), (2, .int vq1), (3, .int vq3), (5, .int vq65), (6, .int vq99), (7, .int vq77)]) [1, 2, 3, 4, 0, 5] rfl ?_
          cases h111
          exact KJ104
      have Kbq86f : ¬ bq86 = true → Gd X Y 1 σ78 [(0, .ref (adr Y 43)), (2, .int vq1), (3, .int vq3), (5, .int vq65), (6, .int vq76), (7, .int vq77)] 189 [] := by
        intro h115
        have h94 := (if_neg h115).symm.trans h88
        refine g_sub (lv2 := [(0, .ref (adr Y 43)), (2, .int vq1), (3, .int vq3), (5, .int vq65)]) [0, 1, 2, 3] rfl ?_
        cases h94
        have h85 := h81 σ78 rfl
        cases h85
        exact KX84
      refine g_icmp_ge hX 189 d_M_turnsRight_132 (by decide) h87 (fun h89 => ?_) (fun h90 => ?_)
      · cases h89
        exact Kbq86f (by decide)
      · refine g_iload hX d_M_turnsRight_135 4 rfl ?_
        refine g_if_ne hX 189 d_M_turnsRight_137 (by decide) h90 (fun h91 => ?_) (fun h92 => ?_)
        · cases h91
          exact Kbq86f (by decide)
        · cases h92
          exact Kbq86t rfl
  refine g_sub (lv2 := [(0, .ref (adr Y 43)), (2, .int vq1), (3, .int vq3), (4, .int (-1)), (5, .int 0)]) [4, 3, 2, 1, 0] rfl ?_
  refine g_loop (fun s => M_turnsRight_b2 σ vq1 vq3 s.1 s.2) (fun s => Gd X Y 1 σ [(0, .ref (adr Y 43)), (2, .int vq1), (3, .int vq3), (4, .int s.1), (5, .int s.2)] 18 []) vq7 ?_ fuel ((-1), 0) h11
  intro s y10 h10 h8 h9
  obtain ⟨vq5, vq6⟩ := s
  have h10 : M_turnsRight_b2 σ vq1 vq3 vq5 vq6 = some y10 := h10
  unfold M_turnsRight_b2 at h10
  show Gd X Y 1 σ [(0, .ref (adr Y 43)), (2, .int vq1), (3, .int vq3), (4, .int vq5), (5, .int vq6)] 18 []
  refine g_iload hX d_M_turnsRight_18 4 rfl ?_
  refine g_iload_n hX d_M_turnsRight_20 1 rfl ?_
  refine g_icmp_ge hX 104 d_M_turnsRight_21 (by decide) h10 (fun h14 => ?_) (fun h15 => ?_)
  · refine g_sub (lv2 := [(0, .ref (adr Y 43)), (2, .int vq1), (3, .int vq3), (4, .int vq5)]) [0, 1, 2, 3] rfl ?_
    cases h14
    have h13 := h9 vq5 rfl
    cases h13
    exact KX12
  · refine g_iconst hX 0 d_M_turnsRight_24 (by decide) ?_
    refine g_istoreV hX [(6, .int 0), (0, .ref (adr Y 43)), (2, .int vq1), (3, .int vq3), (4, .int vq5), (5, .int vq6)] d_M_turnsRight_25 (by decide) rfl ?_
    refine g_iconst hX 0 d_M_turnsRight_27 (by decide) ?_
    refine g_istoreV hX [(7, .int 0), (6, .int 0), (0, .ref (adr Y 43)), (2, .int vq1), (3, .int vq3), (4, .int vq5), (5, .int vq6)] d_M_turnsRight_28 (by decide) rfl ?_
    obtain ⟨vq18, h22, h23⟩ := obind h15
    have KX23 : Gd X Y 1 σ [(0, .ref (adr Y 43)), (2, .int vq1), (3, .int vq3), (4, .int vq5), (5, .int vq6), (6, .int vq18)] 77 [] := by
      refine g_iload hX d_M_turnsRight_77 5 rfl ?_
      refine g_iconst hX 1 d_M_turnsRight_79 (by decide) ?_
      obtain ⟨bq45, h46, h47⟩ := ltex h23
      obtain ⟨vq57, h52, h53⟩ := ltex h47
      have KJ53 : Gd X Y 1 σ [(0, .ref (adr Y 43)), (2, .int vq1), (3, .int vq3), (5, .int vq6)] 96 [.int vq57] := by
        refine g_istoreV hX [(4, .int vq57), (0, .ref (adr Y 43)), (2, .int vq1), (3, .int vq3), (5, .int vq6)] d_M_turnsRight_96 (by decide) rfl ?_
        refine g_iinc hX (fun vq59 => [(5, .int vq59), (4, .int vq57), (0, .ref (adr Y 43)), (2, .int vq1), (3, .int vq3)]) d_M_turnsRight_98 4 rfl rfl (by decide) (fun _ => rfl) h53 (fun vq59 h60 => ?_)
        refine g_goto hX 18 d_M_turnsRight_101 (by decide) ?_
        refine g_sub (lv2 := [(0, .ref (adr Y 43)), (2, .int vq1), (3, .int vq3), (4, .int vq57), (5, .int vq59)]) [2, 3, 4, 1, 0] rfl ?_
        cases h60
        exact h8 (vq57, vq59) rfl
      have Kbq45t : bq45 = true → Gd X Y 1 σ [(0, .ref (adr Y 43)), (2, .int vq1), (3, .int vq3), (4, .int vq5), (5, .int vq6), (6, .int vq18)] 89 [] := by
        intro h58
        have h55 := (if_pos h58).symm.trans h52
        refine g_iload hX d_M_turnsRight_89 4 rfl ?_
        refine g_goto hX 96 d_M_turnsRight_91 (by decide) ?_
        refine g_sub (lv2 := [(0, .ref (adr Y 43)), (2, .int vq1), (3, .int vq3), (5, .int vq6)]) [0, 1, 2, 4] rfl ?_
        cases h55
        exact KJ53
      have Kbq45f : ¬ bq45 = true → Gd X Y 1 σ [(0, .ref (adr Y 43)), (2, .int vq1), (3, .int vq3), (4, .int vq5), (5, .int vq6), (6, .int vq18)] 94 [] := by
        intro h58
        have h56 := (if_neg h58).symm.trans h52
        refine g_iload hX d_M_turnsRight_94 3 rfl ?_
        refine g_sub (lv2 := [(0, .ref (adr Y 43)), (2, .int vq1), (3, .int vq3), (5, .int vq6)]) [0, 1, 2, 4] rfl ?_
        cases h56
        exact KJ53
      refine g_icmp_ne hX 94 d_M_turnsRight_80 (by decide) h46 (fun h48 => ?_) (fun h49 => ?_)
      · cases h48
        exact Kbq45f (by decide)
      · refine g_iload hX d_M_turnsRight_83 3 rfl ?_
        refine g_iconst hX (-1) d_M_turnsRight_85 (by decide) ?_
        refine g_icmp_ne hX 94 d_M_turnsRight_86 (by decide) h49 (fun h50 => ?_) (fun h51 => ?_)
        · cases h50
          exact Kbq45f (by decide)
        · cases h51
          exact Kbq45t rfl
    refine g_sub (lv2 := [(0, .ref (adr Y 43)), (2, .int vq1), (3, .int vq3), (4, .int vq5), (5, .int vq6), (6, .int 0), (7, .int 0)]) [2, 3, 4, 5, 6, 1, 0] rfl ?_
    refine g_loop (fun s => M_turnsRight_b1 σ vq1 vq3 vq6 s.1 s.2) (fun s => Gd X Y 1 σ [(0, .ref (adr Y 43)), (2, .int vq1), (3, .int vq3), (4, .int vq5), (5, .int vq6), (6, .int s.1), (7, .int s.2)] 30 []) vq18 ?_ fuel (0, 0) h22
    intro s y21 h21 h19 h20
    obtain ⟨vq16, vq17⟩ := s
    have h21 : M_turnsRight_b1 σ vq1 vq3 vq6 vq16 vq17 = some y21 := h21
    unfold M_turnsRight_b1 at h21
    show Gd X Y 1 σ [(0, .ref (adr Y 43)), (2, .int vq1), (3, .int vq3), (4, .int vq5), (5, .int vq6), (6, .int vq16), (7, .int vq17)] 30 []
    refine g_iload hX d_M_turnsRight_30 6 rfl ?_
    refine g_iload_n hX d_M_turnsRight_32 1 rfl ?_
    refine g_icmp_ge hX 77 d_M_turnsRight_33 (by decide) h21 (fun h25 => ?_) (fun h26 => ?_)
    · refine g_sub (lv2 := [(0, .ref (adr Y 43)), (2, .int vq1), (3, .int vq3), (4, .int vq5), (5, .int vq6), (6, .int vq16)]) [0, 1, 2, 3, 4, 5] rfl ?_
      cases h25
      have h24 := h20 vq16 rfl
      cases h24
      exact KX23
    · refine g_iload hX d_M_turnsRight_36 5 rfl ?_
      refine g_aload_n hX d_M_turnsRight_38 0 rfl ?_
      refine g_aload_n hX d_M_turnsRight_39 0 rfl ?_
      refine g_getR hX iw_43 sh_43 rfl fl_M_38 d_M_turnsRight_40 ?_
      refine g_iload_n hX d_M_turnsRight_43 2 rfl ?_
      refine g_iload hX d_M_turnsRight_44 4 rfl ?_
      refine g_iadd hX d_M_turnsRight_46 ?_
      refine g_iaload hX iw_52 sh_52 d_M_turnsRight_47 h26 (fun vq27 h28 => ?_)
      refine g_aload_n hX d_M_turnsRight_48 0 rfl ?_
      refine g_getR hX iw_43 sh_43 rfl fl_M_38 d_M_turnsRight_49 ?_
      refine g_iload_n hX d_M_turnsRight_52 2 rfl ?_
      refine g_iload hX d_M_turnsRight_53 6 rfl ?_
      refine g_iadd hX d_M_turnsRight_55 ?_
      refine g_iaload hX iw_52 sh_52 d_M_turnsRight_56 h28 (fun vq29 h30 => ?_)
      obtain ⟨vq31, h32, h33⟩ := obind h30
      refine g_callV hX [.int vq27, .int vq29] [.int vq16] mv_M_149 (c_M_areBeside X.2.1 Y vq27 vq29 σ _ h32) (by decide) iw_43 sh_43 rfl rfl rfl (Nat.le_of_ble_eq_true rfl) d_M_turnsRight_57 (fun h34 => ?_)
      show Gd X Y 1 σ [(0, .ref (adr Y 43)), (2, .int vq1), (3, .int vq3), (4, .int vq5), (5, .int vq6), (6, .int vq16), (7, .int vq17)] 60 [.int vq31, .int vq16]
      obtain ⟨vq40, h35, h36⟩ := ltex h33
      have KJ36 : okR (some .boolean) (some (.int vq40)) → Gd X Y 1 σ [(0, .ref (adr Y 43)), (2, .int vq1), (3, .int vq3), (4, .int vq5), (5, .int vq6), (7, .int vq17)] 68 [.int vq40, .int vq16] := by
        intro hbvq40
        refine g_iadd hX d_M_turnsRight_68 ?_
        refine g_istore hX (fun vq41 => [(6, .int vq41), (0, .ref (adr Y 43)), (2, .int vq1), (3, .int vq3), (4, .int vq5), (5, .int vq6), (7, .int vq17)]) d_M_turnsRight_69 (by decide) (fun _ => rfl) h36 (fun vq41 h42 => ?_)
        refine g_iinc hX (fun vq43 => [(7, .int vq43), (6, .int vq41), (0, .ref (adr Y 43)), (2, .int vq1), (3, .int vq3), (4, .int vq5), (5, .int vq6)]) d_M_turnsRight_71 6 rfl rfl (by decide) (fun _ => rfl) h42 (fun vq43 h44 => ?_)
        refine g_goto hX 30 d_M_turnsRight_74 (by decide) ?_
        refine g_sub (lv2 := [(0, .ref (adr Y 43)), (2, .int vq1), (3, .int vq3), (4, .int vq5), (5, .int vq6), (6, .int vq41), (7, .int vq43)]) [2, 3, 4, 5, 6, 1, 0] rfl ?_
        cases h44
        exact h19 (vq41, vq43) rfl
      refine g_if_eq hX 67 d_M_turnsRight_60 (by decide) h35 (fun h38 => ?_) (fun h39 => ?_)
      · refine g_iconst hX 0 d_M_turnsRight_67 (by decide) ?_
        refine g_sub (lv2 := [(0, .ref (adr Y 43)), (2, .int vq1), (3, .int vq3), (4, .int vq5), (5, .int vq6), (7, .int vq17)]) [0, 1, 2, 3, 4, 6] rfl ?_
        cases h38
        exact KJ36 okB0
      · refine g_iconst hX 1 d_M_turnsRight_63 (by decide) ?_
        refine g_goto hX 68 d_M_turnsRight_64 (by decide) ?_
        refine g_sub (lv2 := [(0, .ref (adr Y 43)), (2, .int vq1), (3, .int vq3), (4, .int vq5), (5, .int vq6), (7, .int vq17)]) [0, 1, 2, 3, 4, 6] rfl ?_
        cases h39
        exact KJ36 okB1
