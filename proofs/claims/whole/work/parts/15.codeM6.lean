noncomputable def M_copy_b1 (x1 : Int32) (x2 : Int32) (x5 : Int32) (vq60 : Int32) (σ61 : Mem) : Option ((Int32 × Mem) ⊕ (Mem)) := if x5 ≤ vq60 then some (.inr σ61) else (rd σ61 64 (((60 * x1) + x2) + vq60)).bind (fun vq71 => (wr σ61 65 vq60 vq71).bind (fun σ73 => lt (vq60 + 1) (fun vq75 => some (.inl (vq75, σ73)))))
noncomputable def M_copy_b2 (x3 : Int32) (x4 : Int32) (x5 : Int32) (vq77 : Int32) (σ78 : Mem) : Option ((Int32 × Mem) ⊕ (Mem)) := if x5 ≤ vq77 then some (.inr σ78) else (rd σ78 65 vq77).bind (fun vq88 => (wr σ78 64 (((60 * x3) + x4) + vq77) vq88).bind (fun σ90 => lt (vq77 + 1) (fun vq92 => some (.inl (vq92, σ90)))))
noncomputable def M_copy (x1 : Int32) (x2 : Int32) (x3 : Int32) (x4 : Int32) (x5 : Int32) (σ : Mem) : Option (Int32 × Mem) := lt (if (M_isSheet x1) = 0 then true else if (M_isSheet x3) = 0 then true else false : Bool) (fun bq2 => if bq2 = true then some ((-2), σ) else (rd σ 61 x1).bind (fun vq12 => ((if vq12 = 0 then some true else (rd σ 61 x3).bind (fun vq19 => if vq19 = 0 then some true else some false) : Option (Bool))).bind (fun bq14 => if bq14 = true then lt (M_meets 1 σ) (fun q => lt q.1 (fun vq25 => lt q.2 (fun σ26 => some (vq25, σ26)))) else (rd σ 62 x1).bind (fun vq30 => (rd σ 62 x3).bind (fun vq32 => if vq30 = vq32 then ((if x2 < 0 then some true else if x4 < 0 then some true else if x5 < 0 then some true else (rd σ 63 x1).bind (fun vq45 => if 0 < (lg_cmp ((x2.toInt64) + (x5.toInt64)) (vq45.toInt64)) then some true else (rd σ 63 x3).bind (fun vq49 => if (lg_cmp ((x4.toInt64) + (x5.toInt64)) (vq49.toInt64)) ≤ 0 then some false else some true)) : Option (Bool))).bind (fun bq36 => if bq36 = true then lt (M_meets 2 σ) (fun q => lt q.1 (fun vq55 => lt q.2 (fun σ56 => some (vq55, σ56)))) else (lp (fun s => M_copy_b1 x1 x2 x5 s.1 s.2) fuel (0, σ)).bind (fun σ62 => (lp (fun s => M_copy_b2 x3 x4 x5 s.1 s.2) fuel (0, σ62)).bind (fun σ79 => some (1, σ79)))) else lt (M_meets 4 σ) (fun q => lt q.1 (fun vq95 => lt q.2 (fun σ96 => some (vq95, σ96)))))))))
set_option maxHeartbeats 4000000 in
set_option maxRecDepth 100000 in
theorem c_M_copy (l : Launch) (Y : Wx) (x1 : Int32) (x2 : Int32) (x3 : Int32) (x4 : Int32) (x5 : Int32)  (σ : Mem) (o : Int32 × Mem) (hf : M_copy x1 x2 x3 x4 x5 σ = some o) : Ct l Y 1 y_M_copy b_M_copy 7 (some .int) 2 [.ref (adr Y 43), .int x1, .int x2, .int x3, .int x4, .int x5] σ (some (.int o.1)) o.2 := by
  unfold M_copy at hf
  refine ct_of (by decide) (Nat.le_of_ble_eq_true rfl) rfl (fun X hXl hX hR => ?_)
  subst hXl
  have hX : Fx X Y 1 b_M_copy 7 R_M 2 := hX
  refine g_iload_n hX d_M_copy_0 1 rfl ?_
  refine g_callS hX [.int x1] [] mv_M_103 (c_M_isSheet X.2.1 Y x1 σ _ rfl) (by decide) rfl rfl (Nat.le_of_ble_eq_true rfl) d_M_copy_1 (fun h1 => ?_)
  show Gd X Y 1 σ [(0, .ref (adr Y 43)), (1, .int x1), (2, .int x2), (3, .int x3), (4, .int x4), (5, .int x5)] 4 [.int (M_isSheet x1)]
  obtain ⟨bq2, h3, h4⟩ := ltex hf
  have Kbq2t : bq2 = true → Gd X Y 1 σ [(0, .ref (adr Y 43)), (1, .int x1), (2, .int x2), (3, .int x3), (4, .int x4), (5, .int x5)] 14 [] := by
    intro h101
    have h10 := (if_pos h101).symm.trans h4
    refine g_bipush hX (-2) d_M_copy_14 (by decide) ?_
    cases h10
    exact g_ireturn hX hR d_M_copy_16
  have Kbq2f : ¬ bq2 = true → Gd X Y 1 σ [(0, .ref (adr Y 43)), (1, .int x1), (2, .int x2), (3, .int x3), (4, .int x4), (5, .int x5)] 17 [] := by
    intro h101
    have h11 := (if_neg h101).symm.trans h4
    refine g_aload_n hX d_M_copy_17 0 rfl ?_
    refine g_getR hX iw_43 sh_43 rfl fl_M_65 d_M_copy_18 ?_
    refine g_iload_n hX d_M_copy_21 1 rfl ?_
    refine g_baload hX iw_61 sh_61 d_M_copy_22 h11 (fun vq12 h13 => ?_)
    obtain ⟨bq14, h15, h16⟩ := obind h13
    have Kbq14t : bq14 = true → Gd X Y 1 σ [(0, .ref (adr Y 43)), (1, .int x1), (2, .int x2), (3, .int x3), (4, .int x4), (5, .int x5)] 35 [] := by
      intro h100
      have h23 := (if_pos h100).symm.trans h16
      refine g_aload_n hX d_M_copy_35 0 rfl ?_
      refine g_iconst hX 1 d_M_copy_36 (by decide) ?_
      obtain ⟨⟨vq25, σ26⟩, h27, h28⟩ := ltex h23
      have h28 := lt2 h28
      refine g_callV hX [.int 1] [] mv_M_107 (c_M_meets X.2.1 Y 1 σ _ h27) (by decide) iw_43 sh_43 rfl rfl rfl (Nat.le_of_ble_eq_true rfl) d_M_copy_37 (fun h29 => ?_)
      show Gd X Y 1 σ26 [(0, .ref (adr Y 43)), (1, .int x1), (2, .int x2), (3, .int x3), (4, .int x4), (5, .int x5)] 40 [.int vq25]
      cases h28
      exact g_ireturn hX hR d_M_copy_40
    have Kbq14f : ¬ bq14 = true → Gd X Y 1 σ [(0, .ref (adr Y 43)), (1, .int x1), (2, .int x2), (3, .int x3), (4, .int x4), (5, .int x5)] 41 [] := by
      intro h100
      have h24 := (if_neg h100).symm.trans h16
      refine g_aload_n hX d_M_copy_41 0 rfl ?_
      refine g_getR hX iw_43 sh_43 rfl fl_M_69 d_M_copy_42 ?_
      refine g_iload_n hX d_M_copy_45 1 rfl ?_
      refine g_iaload hX iw_62 sh_62 d_M_copy_46 h24 (fun vq30 h31 => ?_)
      refine g_aload_n hX d_M_copy_47 0 rfl ?_
      refine g_getR hX iw_43 sh_43 rfl fl_M_69 d_M_copy_48 ?_
      refine g_iload_n hX d_M_copy_51 3 rfl ?_
      refine g_iaload hX iw_62 sh_62 d_M_copy_52 h31 (fun vq32 h33 => ?_)
      refine g_icmp_eq hX 62 d_M_copy_53 (by decide) h33 (fun h34 => ?_) (fun h35 => ?_)
      · refine g_iload_n hX d_M_copy_62 2 rfl ?_
        obtain ⟨bq36, h37, h38⟩ := obind h34
        have Kbq36t : bq36 = true → Gd X Y 1 σ [(0, .ref (adr Y 43)), (1, .int x1), (2, .int x2), (3, .int x3), (4, .int x4), (5, .int x5)] 111 [] := by
          intro h94
          have h53 := (if_pos h94).symm.trans h38
          refine g_aload_n hX d_M_copy_111 0 rfl ?_
          refine g_iconst hX 2 d_M_copy_112 (by decide) ?_
          obtain ⟨⟨vq55, σ56⟩, h57, h58⟩ := ltex h53
          have h58 := lt2 h58
          refine g_callV hX [.int 2] [] mv_M_107 (c_M_meets X.2.1 Y 2 σ _ h57) (by decide) iw_43 sh_43 rfl rfl rfl (Nat.le_of_ble_eq_true rfl) d_M_copy_113 (fun h59 => ?_)
          show Gd X Y 1 σ56 [(0, .ref (adr Y 43)), (1, .int x1), (2, .int x2), (3, .int x3), (4, .int x4), (5, .int x5)] 116 [.int vq55]
          cases h58
          exact g_ireturn hX hR d_M_copy_116
        have Kbq36f : ¬ bq36 = true → Gd X Y 1 σ [(0, .ref (adr Y 43)), (1, .int x1), (2, .int x2), (3, .int x3), (4, .int x4), (5, .int x5)] 117 [] := by
          intro h94
          have h54 := (if_neg h94).symm.trans h38
          refine g_iconst hX 0 d_M_copy_117 (by decide) ?_
          refine g_istoreV hX [(6, .int 0), (0, .ref (adr Y 43)), (1, .int x1), (2, .int x2), (3, .int x3), (4, .int x4), (5, .int x5)] d_M_copy_118 (by decide) rfl ?_
          obtain ⟨σ62, h66, h67⟩ := obind h54
          have KX67 : Gd X Y 1 σ62 [(0, .ref (adr Y 43)), (3, .int x3), (4, .int x4), (5, .int x5)] 154 [] := by
            refine g_iconst hX 0 d_M_copy_154 (by decide) ?_
            refine g_istoreV hX [(6, .int 0), (0, .ref (adr Y 43)), (3, .int x3), (4, .int x4), (5, .int x5)] d_M_copy_155 (by decide) rfl ?_
            obtain ⟨σ79, h83, h84⟩ := obind h67
            have KX84 : Gd X Y 1 σ79 [] 192 [] := by
              refine g_iconst hX 1 d_M_copy_192 (by decide) ?_
              cases h84
              exact g_ireturn hX hR d_M_copy_193
            refine g_sub (lv2 := [(0, .ref (adr Y 43)), (3, .int x3), (4, .int x4), (5, .int x5), (6, .int 0)]) [1, 2, 3, 4, 0] rfl ?_
            refine g_loop (fun s => M_copy_b2 x3 x4 x5 s.1 s.2) (fun s => Gd X Y 1 s.2 [(0, .ref (adr Y 43)), (3, .int x3), (4, .int x4), (5, .int x5), (6, .int s.1)] 157 []) σ79 ?_ fuel (0, σ62) h83
            intro s y82 h82 h80 h81
            obtain ⟨vq77, σ78⟩ := s
            have h82 : M_copy_b2 x3 x4 x5 vq77 σ78 = some y82 := h82
            unfold M_copy_b2 at h82
            show Gd X Y 1 σ78 [(0, .ref (adr Y 43)), (3, .int x3), (4, .int x4), (5, .int x5), (6, .int vq77)] 157 []
            refine g_iload hX d_M_copy_157 4 rfl ?_
            refine g_iload hX d_M_copy_159 3 rfl ?_
            refine g_icmp_ge hX 192 d_M_copy_161 (by decide) h82 (fun h86 => ?_) (fun h87 => ?_)
            · refine g_sub (lv2 := []) [] rfl ?_
              cases h86
              have h85 := h81 σ78 rfl
              cases h85
              exact KX84
            · refine g_aload_n hX d_M_copy_164 0 rfl ?_
              refine g_getR hX iw_43 sh_43 rfl fl_M_75 d_M_copy_165 ?_
              refine g_bipush hX 60 d_M_copy_168 (by decide) ?_
              refine g_iload_n hX d_M_copy_170 1 rfl ?_
              refine g_imul hX d_M_copy_171 ?_
              refine g_iload hX d_M_copy_172 2 rfl ?_
              refine g_iadd hX d_M_copy_174 ?_
              refine g_iload hX d_M_copy_175 4 rfl ?_
              refine g_iadd hX d_M_copy_177 ?_
              refine g_aload_n hX d_M_copy_178 0 rfl ?_
              refine g_getR hX iw_43 sh_43 rfl fl_M_78 d_M_copy_179 ?_
              refine g_iload hX d_M_copy_182 4 rfl ?_
              refine g_iaload hX iw_65 sh_65 d_M_copy_184 h87 (fun vq88 h89 => ?_)
              refine g_iastore hX iw_64 sh_64 d_M_copy_185 h89 (fun σ90 h91 => ?_)
              refine g_iinc hX (fun vq92 => [(6, .int vq92), (0, .ref (adr Y 43)), (3, .int x3), (4, .int x4), (5, .int x5)]) d_M_copy_186 4 rfl rfl (by decide) (fun _ => rfl) h91 (fun vq92 h93 => ?_)
              refine g_goto hX 157 d_M_copy_189 (by decide) ?_
              refine g_sub (lv2 := [(0, .ref (adr Y 43)), (3, .int x3), (4, .int x4), (5, .int x5), (6, .int vq92)]) [1, 2, 3, 4, 0] rfl ?_
              cases h93
              exact h80 (vq92, σ90) rfl
          refine g_sub (lv2 := [(0, .ref (adr Y 43)), (1, .int x1), (2, .int x2), (3, .int x3), (4, .int x4), (5, .int x5), (6, .int 0)]) [1, 2, 3, 4, 5, 6, 0] rfl ?_
          refine g_loop (fun s => M_copy_b1 x1 x2 x5 s.1 s.2) (fun s => Gd X Y 1 s.2 [(0, .ref (adr Y 43)), (1, .int x1), (2, .int x2), (3, .int x3), (4, .int x4), (5, .int x5), (6, .int s.1)] 120 []) σ62 ?_ fuel (0, σ) h66
          intro s y65 h65 h63 h64
          obtain ⟨vq60, σ61⟩ := s
          have h65 : M_copy_b1 x1 x2 x5 vq60 σ61 = some y65 := h65
          unfold M_copy_b1 at h65
          show Gd X Y 1 σ61 [(0, .ref (adr Y 43)), (1, .int x1), (2, .int x2), (3, .int x3), (4, .int x4), (5, .int x5), (6, .int vq60)] 120 []
          refine g_iload hX d_M_copy_120 6 rfl ?_
          refine g_iload hX d_M_copy_122 5 rfl ?_
          refine g_icmp_ge hX 154 d_M_copy_124 (by decide) h65 (fun h69 => ?_) (fun h70 => ?_)
          · refine g_sub (lv2 := [(0, .ref (adr Y 43)), (3, .int x3), (4, .int x4), (5, .int x5)]) [0, 3, 4, 5] rfl ?_
            cases h69
            have h68 := h64 σ61 rfl
            cases h68
            exact KX67
          · refine g_aload_n hX d_M_copy_127 0 rfl ?_
            refine g_getR hX iw_43 sh_43 rfl fl_M_78 d_M_copy_128 ?_
            refine g_iload hX d_M_copy_131 6 rfl ?_
            refine g_aload_n hX d_M_copy_133 0 rfl ?_
            refine g_getR hX iw_43 sh_43 rfl fl_M_75 d_M_copy_134 ?_
            refine g_bipush hX 60 d_M_copy_137 (by decide) ?_
            refine g_iload_n hX d_M_copy_139 1 rfl ?_
            refine g_imul hX d_M_copy_140 ?_
            refine g_iload_n hX d_M_copy_141 2 rfl ?_
            refine g_iadd hX d_M_copy_142 ?_
            refine g_iload hX d_M_copy_143 6 rfl ?_
            refine g_iadd hX d_M_copy_145 ?_
            refine g_iaload hX iw_64 sh_64 d_M_copy_146 h70 (fun vq71 h72 => ?_)
            refine g_iastore hX iw_65 sh_65 d_M_copy_147 h72 (fun σ73 h74 => ?_)
            refine g_iinc hX (fun vq75 => [(6, .int vq75), (0, .ref (adr Y 43)), (1, .int x1), (2, .int x2), (3, .int x3), (4, .int x4), (5, .int x5)]) d_M_copy_148 6 rfl rfl (by decide) (fun _ => rfl) h74 (fun vq75 h76 => ?_)
            refine g_goto hX 120 d_M_copy_151 (by decide) ?_
            refine g_sub (lv2 := [(0, .ref (adr Y 43)), (1, .int x1), (2, .int x2), (3, .int x3), (4, .int x4), (5, .int x5), (6, .int vq75)]) [1, 2, 3, 4, 5, 6, 0] rfl ?_
            cases h76
            exact h63 (vq75, σ73) rfl
        refine g_if_lt hX 111 d_M_copy_63 (by decide) h37 (fun h39 => ?_) (fun h40 => ?_)
        · cases h39
          exact Kbq36t rfl
        · refine g_iload hX d_M_copy_66 4 rfl ?_
          refine g_if_lt hX 111 d_M_copy_68 (by decide) h40 (fun h41 => ?_) (fun h42 => ?_)
          · cases h41
            exact Kbq36t rfl
          · refine g_iload hX d_M_copy_71 5 rfl ?_
            refine g_if_lt hX 111 d_M_copy_73 (by decide) h42 (fun h43 => ?_) (fun h44 => ?_)
            · cases h43
              exact Kbq36t rfl
            · refine g_iload_n hX d_M_copy_76 2 rfl ?_
              refine g_i2l hX d_M_copy_77 ?_
              refine g_iload hX d_M_copy_78 5 rfl ?_
              refine g_i2l hX d_M_copy_80 ?_
              refine g_ladd hX d_M_copy_81 ?_
              refine g_aload_n hX d_M_copy_82 0 rfl ?_
              refine g_getR hX iw_43 sh_43 rfl fl_M_72 d_M_copy_83 ?_
              refine g_iload_n hX d_M_copy_86 1 rfl ?_
              refine g_iaload hX iw_63 sh_63 d_M_copy_87 h44 (fun vq45 h46 => ?_)
              refine g_i2l hX d_M_copy_88 ?_
              refine g_lcmp hX d_M_copy_89 ?_
              refine g_if_gt hX 111 d_M_copy_90 (by decide) h46 (fun h47 => ?_) (fun h48 => ?_)
              · cases h47
                exact Kbq36t rfl
              · refine g_iload hX d_M_copy_93 4 rfl ?_
                refine g_i2l hX d_M_copy_95 ?_
                refine g_iload hX d_M_copy_96 5 rfl ?_
                refine g_i2l hX d_M_copy_98 ?_
                refine g_ladd hX d_M_copy_99 ?_
                refine g_aload_n hX d_M_copy_100 0 rfl ?_
                refine g_getR hX iw_43 sh_43 rfl fl_M_72 d_M_copy_101 ?_
                refine g_iload_n hX d_M_copy_104 3 rfl ?_
                refine g_iaload hX iw_63 sh_63 d_M_copy_105 h48 (fun vq49 h50 => ?_)
                refine g_i2l hX d_M_copy_106 ?_
                refine g_lcmp hX d_M_copy_107 ?_
                refine g_if_le hX 117 d_M_copy_108 (by decide) h50 (fun h51 => ?_) (fun h52 => ?_)
                · cases h51
                  exact Kbq36f (by decide)
                · cases h52
                  exact Kbq36t rfl
      · refine g_aload_n hX d_M_copy_56 0 rfl ?_
        refine g_iconst hX 4 d_M_copy_57 (by decide) ?_
        obtain ⟨⟨vq95, σ96⟩, h97, h98⟩ := ltex h35
        have h98 := lt2 h98
        refine g_callV hX [.int 4] [] mv_M_107 (c_M_meets X.2.1 Y 4 σ _ h97) (by decide) iw_43 sh_43 rfl rfl rfl (Nat.le_of_ble_eq_true rfl) d_M_copy_58 (fun h99 => ?_)
        show Gd X Y 1 σ96 [(0, .ref (adr Y 43)), (1, .int x1), (2, .int x2), (3, .int x3), (4, .int x4), (5, .int x5)] 61 [.int vq95]
        cases h98
        exact g_ireturn hX hR d_M_copy_61
    refine g_if_eq hX 35 d_M_copy_23 (by decide) h15 (fun h17 => ?_) (fun h18 => ?_)
    · cases h17
      exact Kbq14t rfl
    · refine g_aload_n hX d_M_copy_26 0 rfl ?_
      refine g_getR hX iw_43 sh_43 rfl fl_M_65 d_M_copy_27 ?_
      refine g_iload_n hX d_M_copy_30 3 rfl ?_
      refine g_baload hX iw_61 sh_61 d_M_copy_31 h18 (fun vq19 h20 => ?_)
      refine g_if_ne hX 41 d_M_copy_32 (by decide) h20 (fun h21 => ?_) (fun h22 => ?_)
      · cases h21
        exact Kbq14f (by decide)
      · cases h22
        exact Kbq14t rfl
  refine g_if_eq hX 14 d_M_copy_4 (by decide) h3 (fun h5 => ?_) (fun h6 => ?_)
  · cases h5
    exact Kbq2t rfl
  · refine g_iload_n hX d_M_copy_7 3 rfl ?_
    refine g_callS hX [.int x3] [] mv_M_103 (c_M_isSheet X.2.1 Y x3 σ _ rfl) (by decide) rfl rfl (Nat.le_of_ble_eq_true rfl) d_M_copy_8 (fun h7 => ?_)
    show Gd X Y 1 σ [(0, .ref (adr Y 43)), (1, .int x1), (2, .int x2), (3, .int x3), (4, .int x4), (5, .int x5)] 11 [.int (M_isSheet x3)]
    refine g_if_ne hX 17 d_M_copy_11 (by decide) h6 (fun h8 => ?_) (fun h9 => ?_)
    · cases h8
      exact Kbq2f (by decide)
    · cases h9
      exact Kbq2t rfl
noncomputable def M_write_b1 (x2 : Int32) (vq31 : Int32) (σ32 : Mem) : Option ((Int32 × Mem) ⊕ (Int32 × Mem)) := (rd σ32 63 x2).bind (fun vq41 => lt (if vq41 ≤ vq31 then false else if (σ32 43 0) ≤ vq31 then false else true : Bool) (fun bq43 => if bq43 = true then (rd σ32 57 vq31).bind (fun vq52 => (M_keep x2 vq31 vq52 σ32).bind (fun σ54 => lt (vq31 + 1) (fun vq58 => some (.inl (vq58, σ54))))) else some (.inr (vq31, σ32))))
noncomputable def M_write (x1 : Int32) (x2 : Int32) (σ : Mem) : Option (Int32 × Mem) := lt (if (M_in x1 0 40319) = 0 then true else if (M_isSheet x2) = 0 then true else false : Bool) (fun bq2 => if bq2 = true then some ((-2), σ) else (rd σ 61 x2).bind (fun vq12 => if vq12 = 0 then lt (M_meets 1 σ) (fun q => lt q.1 (fun vq61 => lt q.2 (fun σ62 => some (vq61, σ62)))) else (M_manyNow σ).bind (fun q => lt q.1 (fun vq16 => lt q.2 (fun σ17 => if x1 < vq16 then (M_findsTree σ17).bind (fun σ23 => (M_findsRow x1 σ23).bind (fun σ27 => (lp (fun s => M_write_b1 x2 s.1 s.2) fuel (0, σ27)).bind (fun q => lt q.1 (fun vq33 => lt q.2 (fun σ34 => some (vq33, σ34)))))) else some (0, σ17))))))
set_option maxHeartbeats 4000000 in
set_option maxRecDepth 100000 in
theorem c_M_write (l : Launch) (Y : Wx) (x1 : Int32) (x2 : Int32)  (σ : Mem) (o : Int32 × Mem) (hf : M_write x1 x2 σ = some o) : Ct l Y 1 y_M_write b_M_write 4 (some .int) 7 [.ref (adr Y 43), .int x1, .int x2] σ (some (.int o.1)) o.2 := by
  unfold M_write at hf
  refine ct_of (by decide) (Nat.le_of_ble_eq_true rfl) rfl (fun X hXl hX hR => ?_)
  subst hXl
  have hX : Fx X Y 1 b_M_write 4 R_M 7 := hX
  refine g_iload_n hX d_M_write_0 1 rfl ?_
  refine g_iconst hX 0 d_M_write_1 (by decide) ?_
  refine g_ldc hX d_M_write_2 q_595 ?_
  refine g_callS hX [.int x1, .int 0, .int 40319] [] mv_M_85 (c_M_in X.2.1 Y x1 0 40319 σ _ rfl) (by decide) rfl rfl (Nat.le_of_ble_eq_true rfl) d_M_write_4 (fun h1 => ?_)
  show Gd X Y 1 σ [(0, .ref (adr Y 43)), (1, .int x1), (2, .int x2)] 7 [.int (M_in x1 0 40319)]
  obtain ⟨bq2, h3, h4⟩ := ltex hf
  have Kbq2t : bq2 = true → Gd X Y 1 σ [(0, .ref (adr Y 43)), (1, .int x1), (2, .int x2)] 17 [] := by
    intro h66
    have h10 := (if_pos h66).symm.trans h4
    refine g_bipush hX (-2) d_M_write_17 (by decide) ?_
    cases h10
    exact g_ireturn hX hR d_M_write_19
  have Kbq2f : ¬ bq2 = true → Gd X Y 1 σ [(0, .ref (adr Y 43)), (1, .int x1), (2, .int x2)] 20 [] := by
    intro h66
    have h11 := (if_neg h66).symm.trans h4
    refine g_aload_n hX d_M_write_20 0 rfl ?_
    refine g_getR hX iw_43 sh_43 rfl fl_M_65 d_M_write_21 ?_
    refine g_iload_n hX d_M_write_24 2 rfl ?_
    refine g_baload hX iw_61 sh_61 d_M_write_25 h11 (fun vq12 h13 => ?_)
    refine g_if_ne hX 35 d_M_write_26 (by decide) h13 (fun h14 => ?_) (fun h15 => ?_)
    · refine g_iload_n hX d_M_write_35 1 rfl ?_
      refine g_aload_n hX d_M_write_36 0 rfl ?_
      obtain ⟨⟨vq16, σ17⟩, h18, h19⟩ := obind h14
      have h19 := lt2 h19
      refine g_callV hX [] [.int x1] mv_M_127 (c_M_manyNow X.2.1 Y σ _ h18) (by decide) iw_43 sh_43 rfl rfl rfl (Nat.le_of_ble_eq_true rfl) d_M_write_37 (fun h20 => ?_)
      show Gd X Y 1 σ17 [(0, .ref (adr Y 43)), (1, .int x1), (2, .int x2)] 40 [.int vq16, .int x1]
      refine g_icmp_lt hX 45 d_M_write_40 (by decide) h19 (fun h21 => ?_) (fun h22 => ?_)
      · refine g_aload_n hX d_M_write_45 0 rfl ?_
        obtain ⟨σ23, h24, h25⟩ := obind h21
        refine g_callV hX [] [] mv_M_171 (c_M_findsTree X.2.1 Y σ17 _ h24) (by decide) iw_43 sh_43 rfl rfl rfl (Nat.le_of_ble_eq_true rfl) d_M_write_46 (fun h26 => ?_)
        show Gd X Y 1 σ23 [(0, .ref (adr Y 43)), (1, .int x1), (2, .int x2)] 49 []
        refine g_aload_n hX d_M_write_49 0 rfl ?_
        refine g_iload_n hX d_M_write_50 1 rfl ?_
        obtain ⟨σ27, h28, h29⟩ := obind h25
        refine g_callV hX [.int x1] [] mv_M_192 (c_M_findsRow X.2.1 Y x1 σ23 _ h28) (by decide) iw_43 sh_43 rfl rfl rfl (Nat.le_of_ble_eq_true rfl) d_M_write_51 (fun h30 => ?_)
        show Gd X Y 1 σ27 [(0, .ref (adr Y 43)), (1, .int x1), (2, .int x2)] 54 []
        refine g_iconst hX 0 d_M_write_54 (by decide) ?_
        refine g_istore_nV hX [(3, .int 0), (0, .ref (adr Y 43)), (1, .int x1), (2, .int x2)] d_M_write_55 (by decide) rfl ?_
        obtain ⟨⟨vq33, σ34⟩, h38, h39⟩ := obind h29
        have h39 := lt2 h39
        have KX39 : Gd X Y 1 σ34 [(3, .int vq33)] 92 [] := by
          refine g_iload_n hX d_M_write_92 0 rfl ?_
          cases h39
          exact g_ireturn hX hR d_M_write_93
        refine g_sub (lv2 := [(0, .ref (adr Y 43)), (2, .int x2), (3, .int 0)]) [1, 3, 0] rfl ?_
        refine g_loop (fun s => M_write_b1 x2 s.1 s.2) (fun s => Gd X Y 1 s.2 [(0, .ref (adr Y 43)), (2, .int x2), (3, .int s.1)] 56 []) (vq33, σ34) ?_ fuel (0, σ27) h38
        intro s y37 h37 h35 h36
        obtain ⟨vq31, σ32⟩ := s
        have h37 : M_write_b1 x2 vq31 σ32 = some y37 := h37
        unfold M_write_b1 at h37
        show Gd X Y 1 σ32 [(0, .ref (adr Y 43)), (2, .int x2), (3, .int vq31)] 56 []
        refine g_iload_n hX d_M_write_56 2 rfl ?_
        refine g_aload_n hX d_M_write_57 0 rfl ?_
        refine g_getR hX iw_43 sh_43 rfl fl_M_72 d_M_write_58 ?_
        refine g_iload_n hX d_M_write_61 1 rfl ?_
        refine g_iaload hX iw_63 sh_63 d_M_write_62 h37 (fun vq41 h42 => ?_)
        obtain ⟨bq43, h44, h45⟩ := ltex h42
        have Kbq43t : bq43 = true → Gd X Y 1 σ32 [(0, .ref (adr Y 43)), (2, .int x2), (3, .int vq31)] 74 [] := by
          intro h60
          have h50 := (if_pos h60).symm.trans h45
          refine g_aload_n hX d_M_write_74 0 rfl ?_
          refine g_iload_n hX d_M_write_75 1 rfl ?_
          refine g_iload_n hX d_M_write_76 2 rfl ?_
          refine g_aload_n hX d_M_write_77 0 rfl ?_
          refine g_getR hX iw_43 sh_43 rfl fl_M_53 d_M_write_78 ?_
          refine g_iload_n hX d_M_write_81 2 rfl ?_
          refine g_iaload hX iw_57 sh_57 d_M_write_82 h50 (fun vq52 h53 => ?_)
          obtain ⟨σ54, h55, h56⟩ := obind h53
          refine g_callV hX [.int x2, .int vq31, .int vq52] [] mv_M_254 (c_M_keep X.2.1 Y x2 vq31 vq52 σ32 _ h55) (by decide) iw_43 sh_43 rfl rfl rfl (Nat.le_of_ble_eq_true rfl) d_M_write_83 (fun h57 => ?_)
          show Gd X Y 1 σ54 [(0, .ref (adr Y 43)), (2, .int x2), (3, .int vq31)] 86 []
          refine g_iinc hX (fun vq58 => [(3, .int vq58), (0, .ref (adr Y 43)), (2, .int x2)]) d_M_write_86 2 rfl rfl (by decide) (fun _ => rfl) h56 (fun vq58 h59 => ?_)
          refine g_goto hX 56 d_M_write_89 (by decide) ?_
          refine g_sub (lv2 := [(0, .ref (adr Y 43)), (2, .int x2), (3, .int vq58)]) [1, 2, 0] rfl ?_
          cases h59
          exact h35 (vq58, σ54) rfl
        have Kbq43f : ¬ bq43 = true → Gd X Y 1 σ32 [(0, .ref (adr Y 43)), (2, .int x2), (3, .int vq31)] 92 [] := by
          intro h60
          have h51 := (if_neg h60).symm.trans h45
          refine g_sub (lv2 := [(3, .int vq31)]) [2] rfl ?_
          cases h51
          have h40 := h36 (vq31, σ32) rfl
          cases h40
          exact KX39
        refine g_icmp_ge hX 92 d_M_write_63 (by decide) h44 (fun h46 => ?_) (fun h47 => ?_)
        · cases h46
          exact Kbq43f (by decide)
        · refine g_iload_n hX d_M_write_66 2 rfl ?_
          refine g_aload_n hX d_M_write_67 0 rfl ?_
          refine g_getI hX iw_43 sh_43 rfl fl_M_7.f d_M_write_68 ?_
          refine g_icmp_ge hX 92 d_M_write_71 (by decide) h47 (fun h48 => ?_) (fun h49 => ?_)
          · cases h48
            exact Kbq43f (by decide)
          · cases h49
            exact Kbq43t rfl
      · refine g_iconst hX 0 d_M_write_43 (by decide) ?_
        cases h22
        exact g_ireturn hX hR d_M_write_44
    · refine g_aload_n hX d_M_write_29 0 rfl ?_
      refine g_iconst hX 1 d_M_write_30 (by decide) ?_
      obtain ⟨⟨vq61, σ62⟩, h63, h64⟩ := ltex h15
      have h64 := lt2 h64
      refine g_callV hX [.int 1] [] mv_M_107 (c_M_meets X.2.1 Y 1 σ _ h63) (by decide) iw_43 sh_43 rfl rfl rfl (Nat.le_of_ble_eq_true rfl) d_M_write_31 (fun h65 => ?_)
      show Gd X Y 1 σ62 [(0, .ref (adr Y 43)), (1, .int x1), (2, .int x2)] 34 [.int vq61]
      cases h64
      exact g_ireturn hX hR d_M_write_34
  refine g_if_eq hX 17 d_M_write_7 (by decide) h3 (fun h5 => ?_) (fun h6 => ?_)
  · cases h5
    exact Kbq2t rfl
  · refine g_iload_n hX d_M_write_10 2 rfl ?_
    refine g_callS hX [.int x2] [] mv_M_103 (c_M_isSheet X.2.1 Y x2 σ _ rfl) (by decide) rfl rfl (Nat.le_of_ble_eq_true rfl) d_M_write_11 (fun h7 => ?_)
    show Gd X Y 1 σ [(0, .ref (adr Y 43)), (1, .int x1), (2, .int x2)] 14 [.int (M_isSheet x2)]
    refine g_if_ne hX 20 d_M_write_14 (by decide) h6 (fun h8 => ?_) (fun h9 => ?_)
    · cases h8
      exact Kbq2f (by decide)
    · cases h9
      exact Kbq2t rfl
noncomputable def M_takenMany_b1 (vq1 : Int32) (σ2 : Mem) (vq6 : Int32) (vq7 : Int32) : Option ((Int32 × Int32) ⊕ (Int32)) := if (σ2 43 1) ≤ vq7 then some (.inr vq6) else lt (if (M_isIn vq1 vq7) = 0 then 0 else 1 : Int32) (fun vq23 => lt (vq6 + vq23) (fun vq24 => lt (vq7 + 1) (fun vq26 => some (.inl (vq24, vq26)))))
noncomputable def M_takenMany  (σ : Mem) : Option (Int32 × Mem) := (M_takenNow σ).bind (fun q => lt q.1 (fun vq1 => lt q.2 (fun σ2 => (lp (fun s => M_takenMany_b1 vq1 σ2 s.1 s.2) fuel (0, 0)).bind (fun vq8 => some (vq8, σ2)))))
set_option maxHeartbeats 4000000 in
set_option maxRecDepth 100000 in
theorem c_M_takenMany (l : Launch) (Y : Wx)   (σ : Mem) (o : Int32 × Mem) (hf : M_takenMany σ = some o) : Ct l Y 1 y_M_takenMany b_M_takenMany 4 (some .int) 4 [.ref (adr Y 43)] σ (some (.int o.1)) o.2 := by
  unfold M_takenMany at hf
  refine ct_of (by decide) (Nat.le_of_ble_eq_true rfl) rfl (fun X hXl hX hR => ?_)
  subst hXl
  have hX : Fx X Y 1 b_M_takenMany 4 R_M 4 := hX
  refine g_aload_n hX d_M_takenMany_0 0 rfl ?_
  obtain ⟨⟨vq1, σ2⟩, h3, h4⟩ := obind hf
  have h4 := lt2 h4
  refine g_callV hX [] [] mv_M_96 (c_M_takenNow X.2.1 Y σ _ h3) (by decide) iw_43 sh_43 rfl rfl rfl (Nat.le_of_ble_eq_true rfl) d_M_takenMany_1 (fun h5 => ?_)
  show Gd X Y 1 σ2 [(0, .ref (adr Y 43))] 4 [.int vq1]
  refine g_istore_nV hX [(1, .int vq1), (0, .ref (adr Y 43))] d_M_takenMany_4 (by decide) rfl ?_
  refine g_iconst hX 0 d_M_takenMany_5 (by decide) ?_
  refine g_istore_nV hX [(2, .int 0), (1, .int vq1), (0, .ref (adr Y 43))] d_M_takenMany_6 (by decide) rfl ?_
  refine g_iconst hX 0 d_M_takenMany_7 (by decide) ?_
  refine g_istore_nV hX [(3, .int 0), (2, .int 0), (1, .int vq1), (0, .ref (adr Y 43))] d_M_takenMany_8 (by decide) rfl ?_
  obtain ⟨vq8, h12, h13⟩ := obind h4
  have KX13 : Gd X Y 1 σ2 [(2, .int vq8)] 39 [] := by
    refine g_iload_n hX d_M_takenMany_39 0 rfl ?_
    cases h13
    exact g_ireturn hX hR d_M_takenMany_40
  refine g_sub (lv2 := [(0, .ref (adr Y 43)), (1, .int vq1), (2, .int 0), (3, .int 0)]) [3, 2, 1, 0] rfl ?_
  refine g_loop (fun s => M_takenMany_b1 vq1 σ2 s.1 s.2) (fun s => Gd X Y 1 σ2 [(0, .ref (adr Y 43)), (1, .int vq1), (2, .int s.1), (3, .int s.2)] 9 []) vq8 ?_ fuel (0, 0) h12
  intro s y11 h11 h9 h10
  obtain ⟨vq6, vq7⟩ := s
  have h11 : M_takenMany_b1 vq1 σ2 vq6 vq7 = some y11 := h11
  unfold M_takenMany_b1 at h11
  show Gd X Y 1 σ2 [(0, .ref (adr Y 43)), (1, .int vq1), (2, .int vq6), (3, .int vq7)] 9 []
  refine g_iload_n hX d_M_takenMany_9 3 rfl ?_
  refine g_aload_n hX d_M_takenMany_10 0 rfl ?_
  refine g_getI hX iw_43 sh_43 rfl fl_M_93.f d_M_takenMany_11 ?_
  refine g_icmp_ge hX 39 d_M_takenMany_14 (by decide) h11 (fun h15 => ?_) (fun h16 => ?_)
  · refine g_sub (lv2 := [(2, .int vq6)]) [2] rfl ?_
    cases h15
    have h14 := h10 vq6 rfl
    cases h14
    exact KX13
  · refine g_iload_n hX d_M_takenMany_17 2 rfl ?_
    refine g_iload_n hX d_M_takenMany_18 1 rfl ?_
    refine g_iload_n hX d_M_takenMany_19 3 rfl ?_
    refine g_callS hX [.int vq1, .int vq7] [.int vq6] mv_M_81 (c_M_isIn X.2.1 Y vq1 vq7 σ2 _ rfl) (by decide) rfl rfl (Nat.le_of_ble_eq_true rfl) d_M_takenMany_20 (fun h17 => ?_)
    show Gd X Y 1 σ2 [(0, .ref (adr Y 43)), (1, .int vq1), (2, .int vq6), (3, .int vq7)] 23 [.int (M_isIn vq1 vq7), .int vq6]
    obtain ⟨vq23, h18, h19⟩ := ltex h16
    have KJ19 : okR (some .boolean) (some (.int vq23)) → Gd X Y 1 σ2 [(0, .ref (adr Y 43)), (1, .int vq1), (3, .int vq7)] 31 [.int vq23, .int vq6] := by
      intro hbvq23
      refine g_iadd hX d_M_takenMany_31 ?_
      refine g_istore_n hX (fun vq24 => [(2, .int vq24), (0, .ref (adr Y 43)), (1, .int vq1), (3, .int vq7)]) d_M_takenMany_32 (by decide) (fun _ => rfl) h19 (fun vq24 h25 => ?_)
      refine g_iinc hX (fun vq26 => [(3, .int vq26), (2, .int vq24), (0, .ref (adr Y 43)), (1, .int vq1)]) d_M_takenMany_33 3 rfl rfl (by decide) (fun _ => rfl) h25 (fun vq26 h27 => ?_)
      refine g_goto hX 9 d_M_takenMany_36 (by decide) ?_
      refine g_sub (lv2 := [(0, .ref (adr Y 43)), (1, .int vq1), (2, .int vq24), (3, .int vq26)]) [2, 3, 1, 0] rfl ?_
      cases h27
      exact h9 (vq24, vq26) rfl
    refine g_if_eq hX 30 d_M_takenMany_23 (by decide) h18 (fun h21 => ?_) (fun h22 => ?_)
    · refine g_iconst hX 0 d_M_takenMany_30 (by decide) ?_
      refine g_sub (lv2 := [(0, .ref (adr Y 43)), (1, .int vq1), (3, .int vq7)]) [0, 1, 3] rfl ?_
      cases h21
      exact KJ19 okB0
    · refine g_iconst hX 1 d_M_takenMany_26 (by decide) ?_
      refine g_goto hX 31 d_M_takenMany_27 (by decide) ?_
      refine g_sub (lv2 := [(0, .ref (adr Y 43)), (1, .int vq1), (3, .int vq7)]) [0, 1, 3] rfl ?_
      cases h22
      exact KJ19 okB1
noncomputable def M_nodesOf_b1 (x1 : Int32) (σ1 : Mem) (vq5 : Int32) (vq6 : Int32) : Option ((Int32 × Int32) ⊕ (Int32)) := if (σ1 43 7) ≤ vq6 then some (.inr vq5) else ((if x1 = 0 then some 1 else (rd σ1 50 vq6).bind (fun vq22 => some vq22) : Option (Int32))).bind (fun vq21 => lt (vq5 + vq21) (fun vq24 => lt (vq6 + 1) (fun vq26 => some (.inl (vq24, vq26)))))
noncomputable def M_nodesOf (x1 : Int32) (σ : Mem) : Option (Int32 × Mem) := (M_findsTree σ).bind (fun σ1 => (lp (fun s => M_nodesOf_b1 x1 σ1 s.1 s.2) fuel (0, 0)).bind (fun vq7 => some (vq7, σ1)))
set_option maxHeartbeats 4000000 in
set_option maxRecDepth 100000 in
theorem c_M_nodesOf (l : Launch) (Y : Wx) (x1 : Int32)  (σ : Mem) (o : Int32 × Mem) (hf : M_nodesOf x1 σ = some o) : Ct l Y 1 y_M_nodesOf b_M_nodesOf 4 (some .int) 7 [.ref (adr Y 43), .int x1] σ (some (.int o.1)) o.2 := by
  unfold M_nodesOf at hf
  refine ct_of (by decide) (Nat.le_of_ble_eq_true rfl) rfl (fun X hXl hX hR => ?_)
  subst hXl
  have hX : Fx X Y 1 b_M_nodesOf 4 R_M 7 := hX
  refine g_aload_n hX d_M_nodesOf_0 0 rfl ?_
  obtain ⟨σ1, h2, h3⟩ := obind hf
  refine g_callV hX [] [] mv_M_171 (c_M_findsTree X.2.1 Y σ _ h2) (by decide) iw_43 sh_43 rfl rfl rfl (Nat.le_of_ble_eq_true rfl) d_M_nodesOf_1 (fun h4 => ?_)
  show Gd X Y 1 σ1 [(0, .ref (adr Y 43)), (1, .int x1)] 4 []
  refine g_iconst hX 0 d_M_nodesOf_4 (by decide) ?_
  refine g_istore_nV hX [(2, .int 0), (0, .ref (adr Y 43)), (1, .int x1)] d_M_nodesOf_5 (by decide) rfl ?_
  refine g_iconst hX 0 d_M_nodesOf_6 (by decide) ?_
  refine g_istore_nV hX [(3, .int 0), (2, .int 0), (0, .ref (adr Y 43)), (1, .int x1)] d_M_nodesOf_7 (by decide) rfl ?_
  obtain ⟨vq7, h11, h12⟩ := obind h3
  have KX12 : Gd X Y 1 σ1 [(2, .int vq7)] 39 [] := by
    refine g_iload_n hX d_M_nodesOf_39 0 rfl ?_
    cases h12
    exact g_ireturn hX hR d_M_nodesOf_40
  refine g_sub (lv2 := [(0, .ref (adr Y 43)), (1, .int x1), (2, .int 0), (3, .int 0)]) [2, 3, 1, 0] rfl ?_
  refine g_loop (fun s => M_nodesOf_b1 x1 σ1 s.1 s.2) (fun s => Gd X Y 1 σ1 [(0, .ref (adr Y 43)), (1, .int x1), (2, .int s.1), (3, .int s.2)] 8 []) vq7 ?_ fuel (0, 0) h11
  intro s y10 h10 h8 h9
  obtain ⟨vq5, vq6⟩ := s
  have h10 : M_nodesOf_b1 x1 σ1 vq5 vq6 = some y10 := h10
  unfold M_nodesOf_b1 at h10
  show Gd X Y 1 σ1 [(0, .ref (adr Y 43)), (1, .int x1), (2, .int vq5), (3, .int vq6)] 8 []
  refine g_iload_n hX d_M_nodesOf_8 3 rfl ?_
  refine g_aload_n hX d_M_nodesOf_9 0 rfl ?_
  refine g_getI hX iw_43 sh_43 rfl fl_M_156.f d_M_nodesOf_10 ?_
  refine g_icmp_ge hX 39 d_M_nodesOf_13 (by decide) h10 (fun h14 => ?_) (fun h15 => ?_)
  · refine g_sub (lv2 := [(2, .int vq5)]) [2] rfl ?_
    cases h14
    have h13 := h9 vq5 rfl
    cases h13
    exact KX12
  · refine g_iload_n hX d_M_nodesOf_16 2 rfl ?_
    refine g_iload_n hX d_M_nodesOf_17 1 rfl ?_
    obtain ⟨vq21, h16, h17⟩ := obind h15
    have KJ17 : Gd X Y 1 σ1 [(0, .ref (adr Y 43)), (1, .int x1), (3, .int vq6)] 31 [.int vq21, .int vq5] := by
      refine g_iadd hX d_M_nodesOf_31 ?_
      refine g_istore_n hX (fun vq24 => [(2, .int vq24), (0, .ref (adr Y 43)), (1, .int x1), (3, .int vq6)]) d_M_nodesOf_32 (by decide) (fun _ => rfl) h17 (fun vq24 h25 => ?_)
      refine g_iinc hX (fun vq26 => [(3, .int vq26), (2, .int vq24), (0, .ref (adr Y 43)), (1, .int x1)]) d_M_nodesOf_33 3 rfl rfl (by decide) (fun _ => rfl) h25 (fun vq26 h27 => ?_)
      refine g_goto hX 8 d_M_nodesOf_36 (by decide) ?_
      refine g_sub (lv2 := [(0, .ref (adr Y 43)), (1, .int x1), (2, .int vq24), (3, .int vq26)]) [2, 3, 1, 0] rfl ?_
      cases h27
      exact h8 (vq24, vq26) rfl
    refine g_if_eq hX 30 d_M_nodesOf_18 (by decide) h16 (fun h19 => ?_) (fun h20 => ?_)
    · refine g_iconst hX 1 d_M_nodesOf_30 (by decide) ?_
      refine g_sub (lv2 := [(0, .ref (adr Y 43)), (1, .int x1), (3, .int vq6)]) [0, 1, 3] rfl ?_
      cases h19
      exact KJ17
    · refine g_aload_n hX d_M_nodesOf_21 0 rfl ?_
      refine g_getR hX iw_43 sh_43 rfl fl_M_32 d_M_nodesOf_22 ?_
      refine g_iload_n hX d_M_nodesOf_25 3 rfl ?_
      refine g_iaload hX iw_50 sh_50 d_M_nodesOf_26 h20 (fun vq22 h23 => ?_)
      refine g_goto hX 31 d_M_nodesOf_27 (by decide) ?_
      refine g_sub (lv2 := [(0, .ref (adr Y 43)), (1, .int x1), (3, .int vq6)]) [0, 1, 3] rfl ?_
      cases h23
      exact KJ17
noncomputable def M_count (x1 : Int32) (σ : Mem) : Option (Int32 × Mem) := if x1 = 0 then some ((σ 43 0), σ) else if x1 = 1 then some ((σ 43 1), σ) else if x1 = 2 then (M_takenMany σ).bind (fun q => lt q.1 (fun vq17 => lt q.2 (fun σ18 => some (vq17, σ18)))) else if x1 = 3 then (M_nodesOf 0 σ).bind (fun q => lt q.1 (fun vq24 => lt q.2 (fun σ25 => some (vq24, σ25)))) else if x1 = 4 then (M_nodesOf 1 σ).bind (fun q => lt q.1 (fun vq31 => lt q.2 (fun σ32 => some (vq31, σ32)))) else if x1 = 5 then (M_manyNow σ).bind (fun q => lt q.1 (fun vq38 => lt q.2 (fun σ39 => some (vq38, σ39)))) else if x1 = 6 then (M_treeOf (-1) σ).bind (fun q => lt q.1 (fun vq45 => lt q.2 (fun σ46 => some (vq45, σ46)))) else if x1 = 7 then some ((σ 43 22), σ) else if x1 = 8 then some ((σ 43 29), σ) else some ((-2), σ)
set_option maxHeartbeats 4000000 in
set_option maxRecDepth 100000 in
theorem c_M_count (l : Launch) (Y : Wx) (x1 : Int32)  (σ : Mem) (o : Int32 × Mem) (hf : M_count x1 σ = some o) : Ct l Y 1 y_M_count b_M_count 2 (some .int) 8 [.ref (adr Y 43), .int x1] σ (some (.int o.1)) o.2 := by
  unfold M_count at hf
  refine ct_of (by decide) (Nat.le_of_ble_eq_true rfl) rfl (fun X hXl hX hR => ?_)
  subst hXl
  have hX : Fx X Y 1 b_M_count 2 R_M 8 := hX
  refine g_iload_n hX d_M_count_0 1 rfl ?_
  by_cases h54 : x1 = 0
  · have h11 := (if_pos h54).symm.trans hf
    refine g_tabIn hX 52 d_M_count_1 (by rw [h54]; decide) (by rw [h54]; decide) (by rw [h54]; rfl) (by decide) ?_
    refine g_aload_n hX d_M_count_52 0 rfl ?_
    refine g_getI hX iw_43 sh_43 rfl fl_M_7.f d_M_count_53 ?_
    cases h11
    exact g_ireturn hX hR d_M_count_56
  have h55 := (if_neg h54).symm.trans hf
  by_cases h56 : x1 = 1
  · have h13 := (if_pos h56).symm.trans h55
    refine g_tabIn hX 57 d_M_count_1 (by rw [h56]; decide) (by rw [h56]; decide) (by rw [h56]; rfl) (by decide) ?_
    refine g_aload_n hX d_M_count_57 0 rfl ?_
    refine g_getI hX iw_43 sh_43 rfl fl_M_93.f d_M_count_58 ?_
    cases h13
    exact g_ireturn hX hR d_M_count_61
  have h57 := (if_neg h56).symm.trans h55
  by_cases h58 : x1 = 2
  · have h15 := (if_pos h58).symm.trans h57
    refine g_tabIn hX 62 d_M_count_1 (by rw [h58]; decide) (by rw [h58]; decide) (by rw [h58]; rfl) (by decide) ?_
    refine g_aload_n hX d_M_count_62 0 rfl ?_
    obtain ⟨⟨vq17, σ18⟩, h19, h20⟩ := obind h15
    have h20 := lt2 h20
    refine g_callV hX [] [] mv_M_259 (c_M_takenMany X.2.1 Y σ _ h19) (by decide) iw_43 sh_43 rfl rfl rfl (Nat.le_of_ble_eq_true rfl) d_M_count_63 (fun h21 => ?_)
    show Gd X Y 1 σ18 [(0, .ref (adr Y 43)), (1, .int x1)] 66 [.int vq17]
    cases h20
    exact g_ireturn hX hR d_M_count_66
  have h59 := (if_neg h58).symm.trans h57
  by_cases h60 : x1 = 3
  · have h22 := (if_pos h60).symm.trans h59
    refine g_tabIn hX 67 d_M_count_1 (by rw [h60]; decide) (by rw [h60]; decide) (by rw [h60]; rfl) (by decide) ?_
    refine g_aload_n hX d_M_count_67 0 rfl ?_
    refine g_iconst hX 0 d_M_count_68 (by decide) ?_
    obtain ⟨⟨vq24, σ25⟩, h26, h27⟩ := obind h22
    have h27 := lt2 h27
    refine g_callV hX [.int 0] [] mv_M_262 (c_M_nodesOf X.2.1 Y 0 σ _ h26) (by decide) iw_43 sh_43 rfl rfl rfl (Nat.le_of_ble_eq_true rfl) d_M_count_69 (fun h28 => ?_)
    show Gd X Y 1 σ25 [(0, .ref (adr Y 43)), (1, .int x1)] 72 [.int vq24]
    cases h27
    exact g_ireturn hX hR d_M_count_72
  have h61 := (if_neg h60).symm.trans h59
  by_cases h62 : x1 = 4
  · have h29 := (if_pos h62).symm.trans h61
    refine g_tabIn hX 73 d_M_count_1 (by rw [h62]; decide) (by rw [h62]; decide) (by rw [h62]; rfl) (by decide) ?_
    refine g_aload_n hX d_M_count_73 0 rfl ?_
    refine g_iconst hX 1 d_M_count_74 (by decide) ?_
    obtain ⟨⟨vq31, σ32⟩, h33, h34⟩ := obind h29
    have h34 := lt2 h34
    refine g_callV hX [.int 1] [] mv_M_262 (c_M_nodesOf X.2.1 Y 1 σ _ h33) (by decide) iw_43 sh_43 rfl rfl rfl (Nat.le_of_ble_eq_true rfl) d_M_count_75 (fun h35 => ?_)
    show Gd X Y 1 σ32 [(0, .ref (adr Y 43)), (1, .int x1)] 78 [.int vq31]
    cases h34
    exact g_ireturn hX hR d_M_count_78
  have h63 := (if_neg h62).symm.trans h61
  by_cases h64 : x1 = 5
  · have h36 := (if_pos h64).symm.trans h63
    refine g_tabIn hX 79 d_M_count_1 (by rw [h64]; decide) (by rw [h64]; decide) (by rw [h64]; rfl) (by decide) ?_
    refine g_aload_n hX d_M_count_79 0 rfl ?_
    obtain ⟨⟨vq38, σ39⟩, h40, h41⟩ := obind h36
    have h41 := lt2 h41
    refine g_callV hX [] [] mv_M_127 (c_M_manyNow X.2.1 Y σ _ h40) (by decide) iw_43 sh_43 rfl rfl rfl (Nat.le_of_ble_eq_true rfl) d_M_count_80 (fun h42 => ?_)
    show Gd X Y 1 σ39 [(0, .ref (adr Y 43)), (1, .int x1)] 83 [.int vq38]
    cases h41
    exact g_ireturn hX hR d_M_count_83
  have h65 := (if_neg h64).symm.trans h63
  by_cases h66 : x1 = 6
  · have h43 := (if_pos h66).symm.trans h65
    refine g_tabIn hX 84 d_M_count_1 (by rw [h66]; decide) (by rw [h66]; decide) (by rw [h66]; rfl) (by decide) ?_
    refine g_aload_n hX d_M_count_84 0 rfl ?_
    refine g_iconst hX (-1) d_M_count_85 (by decide) ?_
    obtain ⟨⟨vq45, σ46⟩, h47, h48⟩ := obind h43
    have h48 := lt2 h48
    refine g_callV hX [.int (-1)] [] mv_M_174 (c_M_treeOf X.2.1 Y (-1) σ _ h47) (by decide) iw_43 sh_43 rfl rfl rfl (Nat.le_of_ble_eq_true rfl) d_M_count_86 (fun h49 => ?_)
    show Gd X Y 1 σ46 [(0, .ref (adr Y 43)), (1, .int x1)] 89 [.int vq45]
    cases h48
    exact g_ireturn hX hR d_M_count_89
  have h67 := (if_neg h66).symm.trans h65
  by_cases h68 : x1 = 7
  · have h50 := (if_pos h68).symm.trans h67
    refine g_tabIn hX 90 d_M_count_1 (by rw [h68]; decide) (by rw [h68]; decide) (by rw [h68]; rfl) (by decide) ?_
    refine g_aload_n hX d_M_count_90 0 rfl ?_
    refine g_getI hX iw_43 sh_43 rfl fl_M_223.f d_M_count_91 ?_
    cases h50
    exact g_ireturn hX hR d_M_count_94
  have h69 := (if_neg h68).symm.trans h67
  by_cases h70 : x1 = 8
  · have h52 := (if_pos h70).symm.trans h69
    refine g_tabIn hX 95 d_M_count_1 (by rw [h70]; decide) (by rw [h70]; decide) (by rw [h70]; rfl) (by decide) ?_
    refine g_aload_n hX d_M_count_95 0 rfl ?_
    refine g_getI hX iw_43 sh_43 rfl fl_M_248.f d_M_count_96 ?_
    cases h52
    exact g_ireturn hX hR d_M_count_99
  have h71 := (if_neg h70).symm.trans h69
  have h10 := h71
  refine g_tabOut hX 100 d_M_count_1 (sw_out9 h54 h56 h58 h60 h62 h64 h66 h68 h70) (by decide) ?_
  refine g_bipush hX (-2) d_M_count_100 (by decide) ?_
  cases h10
  exact g_ireturn hX hR d_M_count_102
noncomputable def M_rowDigest_b1 (x3 : Int32) (vq3 : Int64) (vq4 : Int32) (σ5 : Mem) : Option ((Int64 × Int32 × Mem) ⊕ (Int64 × Mem)) := if 8 ≤ vq4 then some (.inr (vq3, σ5)) else (M_rowOf x3 vq4 σ5).bind (fun q => lt q.1 (fun vq16 => lt q.2 (fun σ17 => lt ((31 * vq3) + (vq16.toInt64)) (fun vq21 => lt (vq4 + 1) (fun vq23 => some (.inl (vq21, vq23, σ17)))))))
noncomputable def M_rowDigest (x1 : Int64) (x3 : Int32) (σ : Mem) : Option (Int64 × Mem) := lt x1 (fun vq1 => (lp (fun s => M_rowDigest_b1 x3 s.1 s.2.1 s.2.2) fuel (vq1, 0, σ)).bind (fun q => lt q.1 (fun vq6 => lt q.2 (fun σ7 => some (vq6, σ7)))))
set_option maxHeartbeats 4000000 in
set_option maxRecDepth 100000 in
theorem c_M_rowDigest (l : Launch) (Y : Wx) (x1 : Int64) (x3 : Int32)  (σ : Mem) (o : Int64 × Mem) (hf : M_rowDigest x1 x3 σ = some o) : Ct l Y 1 y_M_rowDigest b_M_rowDigest 7 (some .long) 8 [.ref (adr Y 43), .long x1, .int x3] σ (some (.long o.1)) o.2 := by
  unfold M_rowDigest at hf
  refine ct_of (by decide) (Nat.le_of_ble_eq_true rfl) rfl (fun X hXl hX hR => ?_)
  subst hXl
  have hX : Fx X Y 1 b_M_rowDigest 7 R_M 8 := hX
  refine g_lload_n hX d_M_rowDigest_0 1 rfl ?_
  refine g_lstore hX (fun vq1 => [(4, .long vq1), (0, .ref (adr Y 43)), (1, .long x1), (3, .int x3)]) d_M_rowDigest_1 (by decide) (fun _ => rfl) hf (fun vq1 h2 => ?_)
  refine g_iconst hX 0 d_M_rowDigest_3 (by decide) ?_
  refine g_istoreV hX [(6, .int 0), (4, .long vq1), (0, .ref (adr Y 43)), (1, .long x1), (3, .int x3)] d_M_rowDigest_4 (by decide) rfl ?_
  obtain ⟨⟨vq6, σ7⟩, h11, h12⟩ := obind h2
  have h12 := lt2 h12
  have KX12 : Gd X Y 1 σ7 [(4, .long vq6)] 36 [] := by
    refine g_lload hX d_M_rowDigest_36 0 rfl ?_
    cases h12
    exact g_lreturn hX hR d_M_rowDigest_38
  refine g_sub (lv2 := [(0, .ref (adr Y 43)), (3, .int x3), (4, .long vq1), (6, .int 0)]) [2, 4, 1, 0] rfl ?_
  refine g_loop (fun s => M_rowDigest_b1 x3 s.1 s.2.1 s.2.2) (fun s => Gd X Y 1 s.2.2 [(0, .ref (adr Y 43)), (3, .int x3), (4, .long s.1), (6, .int s.2.1)] 6 []) (vq6, σ7) ?_ fuel (vq1, 0, σ) h11
  intro s y10 h10 h8 h9
  obtain ⟨vq3, vq4, σ5⟩ := s
  have h10 : M_rowDigest_b1 x3 vq3 vq4 σ5 = some y10 := h10
  unfold M_rowDigest_b1 at h10
  show Gd X Y 1 σ5 [(0, .ref (adr Y 43)), (3, .int x3), (4, .long vq3), (6, .int vq4)] 6 []
  refine g_iload hX d_M_rowDigest_6 3 rfl ?_
  refine g_bipush hX 8 d_M_rowDigest_8 (by decide) ?_
  refine g_icmp_ge hX 36 d_M_rowDigest_10 (by decide) h10 (fun h14 => ?_) (fun h15 => ?_)
  · refine g_sub (lv2 := [(4, .long vq3)]) [2] rfl ?_
    cases h14
    have h13 := h9 (vq3, σ5) rfl
    cases h13
    exact KX12
  · refine g_ldc2 hX d_M_rowDigest_13 q_739 ?_
    refine g_lload hX d_M_rowDigest_16 2 rfl ?_
    refine g_lmul hX d_M_rowDigest_18 ?_
    refine g_aload_n hX d_M_rowDigest_19 0 rfl ?_
    refine g_iload_n hX d_M_rowDigest_20 1 rfl ?_
    refine g_iload hX d_M_rowDigest_21 3 rfl ?_
    obtain ⟨⟨vq16, σ17⟩, h18, h19⟩ := obind h15
    have h19 := lt2 h19
    refine g_callV hX [.int x3, .int vq4] [.long (31 * vq3)] mv_M_196 (c_M_rowOf X.2.1 Y x3 vq4 σ5 _ h18) (by decide) iw_43 sh_43 rfl rfl rfl (Nat.le_of_ble_eq_true rfl) d_M_rowDigest_23 (fun h20 => ?_)
    show Gd X Y 1 σ17 [(0, .ref (adr Y 43)), (3, .int x3), (4, .long vq3), (6, .int vq4)] 26 [.int vq16, .long (31 * vq3)]
    refine g_i2l hX d_M_rowDigest_26 ?_
    refine g_ladd hX d_M_rowDigest_27 ?_
    refine g_lstore hX (fun vq21 => [(4, .long vq21), (0, .ref (adr Y 43)), (3, .int x3), (6, .int vq4)]) d_M_rowDigest_28 (by decide) (fun _ => rfl) h19 (fun vq21 h22 => ?_)
    refine g_iinc hX (fun vq23 => [(6, .int vq23), (4, .long vq21), (0, .ref (adr Y 43)), (3, .int x3)]) d_M_rowDigest_30 3 rfl rfl (by decide) (fun _ => rfl) h22 (fun vq23 h24 => ?_)
    refine g_goto hX 6 d_M_rowDigest_33 (by decide) ?_
    refine g_sub (lv2 := [(0, .ref (adr Y 43)), (3, .int x3), (4, .long vq21), (6, .int vq23)]) [2, 3, 1, 0] rfl ?_
    cases h24
    exact h8 (vq21, vq23, σ17) rfl
noncomputable def M_setDigest (x1 : Int64) (x3 : Int32) (σ : Mem) : Option (Int64 × Mem) := (M_may x3 σ).bind (fun q => lt q.1 (fun vq1 => lt q.2 (fun σ2 => lt ((31 * x1) + (vq1.toInt64)) (fun vq6 => (M_must x3 σ2).bind (fun q => lt q.1 (fun vq8 => lt q.2 (fun σ9 => some (((31 * vq6) + (vq8.toInt64)), σ9))))))))
set_option maxHeartbeats 4000000 in
set_option maxRecDepth 100000 in
theorem c_M_setDigest (l : Launch) (Y : Wx) (x1 : Int64) (x3 : Int32)  (σ : Mem) (o : Int64 × Mem) (hf : M_setDigest x1 x3 σ = some o) : Ct l Y 1 y_M_setDigest b_M_setDigest 6 (some .long) 6 [.ref (adr Y 43), .long x1, .int x3] σ (some (.long o.1)) o.2 := by
  unfold M_setDigest at hf
  refine ct_of (by decide) (Nat.le_of_ble_eq_true rfl) rfl (fun X hXl hX hR => ?_)
  subst hXl
  have hX : Fx X Y 1 b_M_setDigest 6 R_M 6 := hX
  refine g_ldc2 hX d_M_setDigest_0 q_739 ?_
  refine g_lload_n hX d_M_setDigest_3 1 rfl ?_
  refine g_lmul hX d_M_setDigest_4 ?_
  refine g_aload_n hX d_M_setDigest_5 0 rfl ?_
  refine g_iload_n hX d_M_setDigest_6 2 rfl ?_
  obtain ⟨⟨vq1, σ2⟩, h3, h4⟩ := obind hf
  have h4 := lt2 h4
  refine g_callV hX [.int x3] [.long (31 * x1)] mv_M_268 (c_M_may X.2.1 Y x3 σ _ h3) (by decide) iw_43 sh_43 rfl rfl rfl (Nat.le_of_ble_eq_true rfl) d_M_setDigest_7 (fun h5 => ?_)
  show Gd X Y 1 σ2 [(0, .ref (adr Y 43)), (1, .long x1), (3, .int x3)] 10 [.int vq1, .long (31 * x1)]
  refine g_i2l hX d_M_setDigest_10 ?_
  refine g_ladd hX d_M_setDigest_11 ?_
  refine g_lstore hX (fun vq6 => [(4, .long vq6), (0, .ref (adr Y 43)), (1, .long x1), (3, .int x3)]) d_M_setDigest_12 (by decide) (fun _ => rfl) h4 (fun vq6 h7 => ?_)
  refine g_ldc2 hX d_M_setDigest_14 q_739 ?_
  refine g_lload hX d_M_setDigest_17 0 rfl ?_
  refine g_lmul hX d_M_setDigest_19 ?_
  refine g_aload_n hX d_M_setDigest_20 1 rfl ?_
  refine g_iload_n hX d_M_setDigest_21 3 rfl ?_
  obtain ⟨⟨vq8, σ9⟩, h10, h11⟩ := obind h7
  have h11 := lt2 h11
  refine g_callV hX [.int x3] [.long (31 * vq6)] mv_M_271 (c_M_must X.2.1 Y x3 σ2 _ h10) (by decide) iw_43 sh_43 rfl rfl rfl (Nat.le_of_ble_eq_true rfl) d_M_setDigest_22 (fun h12 => ?_)
  show Gd X Y 1 σ9 [(4, .long vq6), (0, .ref (adr Y 43)), (1, .long x1), (3, .int x3)] 25 [.int vq8, .long (31 * vq6)]
  refine g_i2l hX d_M_setDigest_25 ?_
  refine g_ladd hX d_M_setDigest_26 ?_
  cases h11
  exact g_lreturn hX hR d_M_setDigest_27
noncomputable def M_digest_b1  (vq3 : Int64) (vq4 : Int32) (σ5 : Mem) : Option ((Int64 × Int32 × Mem) ⊕ (Int64 × Mem)) := if 8 ≤ vq4 then some (.inr (vq3, σ5)) else (M_count vq4 σ5).bind (fun q => lt q.1 (fun vq16 => lt q.2 (fun σ17 => lt ((31 * vq3) + (vq16.toInt64)) (fun vq21 => lt (vq4 + 1) (fun vq23 => some (.inl (vq21, vq23, σ17)))))))
noncomputable def M_digest_b2  (vq25 : Int64) (vq26 : Int32) (σ27 : Mem) : Option ((Int64 × Int32 × Mem) ⊕ (Int64 × Mem)) := if (σ27 43 1) ≤ vq26 then some (.inr (vq25, σ27)) else (M_taken vq26 σ27).bind (fun q => lt q.1 (fun vq38 => lt q.2 (fun σ39 => lt ((31 * vq25) + (vq38.toInt64)) (fun vq43 => (M_reason vq26 σ39).bind (fun q => lt q.1 (fun vq45 => lt q.2 (fun σ46 => lt ((31 * vq43) + (vq45.toInt64)) (fun vq50 => lt (vq26 + 1) (fun vq52 => some (.inl (vq50, vq52, σ46)))))))))))
noncomputable def M_digest_b3  (vq61 : Int64) (vq62 : Int32) (σ63 : Mem) : Option ((Int64 × Int32 × Mem) ⊕ (Int64 × Mem)) := if 40 ≤ vq62 then some (.inr (vq61, σ63)) else (M_treeOf vq62 σ63).bind (fun q => lt q.1 (fun vq74 => lt q.2 (fun σ75 => lt ((31 * vq61) + (vq74.toInt64)) (fun vq79 => lt (vq62 + 1) (fun vq81 => some (.inl (vq79, vq81, σ75)))))))
noncomputable def M_digest_b4 (vq84 : Int32) (vq96 : Int64) (vq97 : Int32) (σ98 : Mem) : Option ((Int64 × Int32 × Mem) ⊕ (Int64 × Mem)) := if 3 ≤ vq97 then some (.inr (vq96, σ98)) else (M_nodeFor vq84 vq97 σ98).bind (fun q => lt q.1 (fun vq109 => lt q.2 (fun σ110 => lt ((31 * vq96) + (vq109.toInt64)) (fun vq114 => lt (vq97 + 1) (fun vq116 => some (.inl (vq114, vq116, σ110)))))))
noncomputable def M_digest_b5  (vq83 : Int64) (vq84 : Int32) (σ85 : Mem) : Option ((Int64 × Int32 × Mem) ⊕ (Int64 × Mem)) := if 7 ≤ vq84 then some (.inr (vq83, σ85)) else (lp (fun s => M_digest_b4 vq84 s.1 s.2.1 s.2.2) fuel (vq83, 0, σ85)).bind (fun q => lt q.1 (fun vq99 => lt q.2 (fun σ100 => lt (vq84 + 1) (fun vq118 => some (.inl (vq99, vq118, σ100))))))
noncomputable def M_digest_b6 (vq198 : Int32) (vq210 : Int64) (vq211 : Int32) (σ212 : Mem) : Option ((Int64 × Int32 × Mem) ⊕ (Int64 × Mem)) := if (σ212 43 0) ≤ vq211 then some (.inr (vq210, σ212)) else (M_apart vq198 vq211 0 σ212).bind (fun q => lt q.1 (fun vq223 => lt q.2 (fun σ224 => lt ((31 * vq210) + (vq223.toInt64)) (fun vq228 => (M_apart vq198 vq211 1 σ224).bind (fun q => lt q.1 (fun vq230 => lt q.2 (fun σ231 => lt ((31 * vq228) + (vq230.toInt64)) (fun vq235 => lt (vq211 + 1) (fun vq237 => some (.inl (vq235, vq237, σ231)))))))))))
noncomputable def M_digest_b7  (vq197 : Int64) (vq198 : Int32) (σ199 : Mem) : Option ((Int64 × Int32 × Mem) ⊕ (Int64 × Mem)) := if (σ199 43 0) ≤ vq198 then some (.inr (vq197, σ199)) else (lp (fun s => M_digest_b6 vq198 s.1 s.2.1 s.2.2) fuel (vq197, 0, σ199)).bind (fun q => lt q.1 (fun vq213 => lt q.2 (fun σ214 => lt (vq198 + 1) (fun vq239 => some (.inl (vq213, vq239, σ214))))))
noncomputable def M_digest  (σ : Mem) : Option (Int64 × Mem) := lt 17 (fun vq1 => (lp (fun s => M_digest_b1 s.1 s.2.1 s.2.2) fuel (vq1, 0, σ)).bind (fun q => lt q.1 (fun vq6 => lt q.2 (fun σ7 => (lp (fun s => M_digest_b2 s.1 s.2.1 s.2.2) fuel (vq6, 0, σ7)).bind (fun q => lt q.1 (fun vq28 => lt q.2 (fun σ29 => (M_manyNow σ29).bind (fun q => lt q.1 (fun vq54 => lt q.2 (fun σ55 => lt ((31 * vq28) + (vq54.toInt64)) (fun vq59 => (lp (fun s => M_digest_b3 s.1 s.2.1 s.2.2) fuel (vq59, (-1), σ55)).bind (fun q => lt q.1 (fun vq64 => lt q.2 (fun σ65 => (lp (fun s => M_digest_b5 s.1 s.2.1 s.2.2) fuel (vq64, 0, σ65)).bind (fun q => lt q.1 (fun vq86 => lt q.2 (fun σ87 => (M_rowDigest vq86 0 σ87).bind (fun q => lt q.1 (fun vq120 => lt q.2 (fun σ121 => lt vq120 (fun vq125 => (M_rowDigest vq125 1 σ121).bind (fun q => lt q.1 (fun vq127 => lt q.2 (fun σ128 => lt vq127 (fun vq132 => (M_rowDigest vq132 2 σ128).bind (fun q => lt q.1 (fun vq134 => lt q.2 (fun σ135 => lt vq134 (fun vq139 => (M_rowDigest vq139 5 σ135).bind (fun q => lt q.1 (fun vq141 => lt q.2 (fun σ142 => lt vq141 (fun vq146 => (M_rowDigest vq146 100 σ142).bind (fun q => lt q.1 (fun vq148 => lt q.2 (fun σ149 => lt vq148 (fun vq153 => (M_setDigest vq153 3 σ149).bind (fun q => lt q.1 (fun vq155 => lt q.2 (fun σ156 => lt vq155 (fun vq160 => (M_setDigest vq160 6 σ156).bind (fun q => lt q.1 (fun vq162 => lt q.2 (fun σ163 => lt vq162 (fun vq167 => (M_setDigest vq167 12 σ163).bind (fun q => lt q.1 (fun vq169 => lt q.2 (fun σ170 => lt vq169 (fun vq174 => (M_setDigest vq174 5 σ170).bind (fun q => lt q.1 (fun vq176 => lt q.2 (fun σ177 => lt vq176 (fun vq181 => (M_setDigest vq181 7 σ177).bind (fun q => lt q.1 (fun vq183 => lt q.2 (fun σ184 => lt vq183 (fun vq188 => (M_setDigest vq188 14 σ184).bind (fun q => lt q.1 (fun vq190 => lt q.2 (fun σ191 => lt vq190 (fun vq195 => (lp (fun s => M_digest_b7 s.1 s.2.1 s.2.2) fuel (vq195, 0, σ191)).bind (fun q => lt q.1 (fun vq200 => lt q.2 (fun σ201 => (M_spareOf σ201).bind (fun q => lt q.1 (fun vq241 => lt q.2 (fun σ242 => lt ((31 * vq200) + (vq241.toInt64)) (fun vq246 => (M_faultOf σ242).bind (fun vq248 => lt ((31 * vq246) + (vq248.toInt64)) (fun vq252 => (M_misses σ242).bind (fun vq254 => lt ((31 * vq252) + (vq254.toInt64)) (fun vq258 => (M_number σ242).bind (fun q => lt q.1 (fun vq260 => lt q.2 (fun σ261 => some (((31 * vq258) + (vq260.toInt64)), σ261))))))))))))))))))))))))))))))))))))))))))))))))))))))))))))))))))))))))))))
set_option maxHeartbeats 4000000 in
set_option maxRecDepth 100000 in
theorem c_M_digest (l : Launch) (Y : Wx)   (σ : Mem) (o : Int64 × Mem) (hf : M_digest σ = some o) : Ct l Y 1 y_M_digest b_M_digest 5 (some .long) 9 [.ref (adr Y 43)] σ (some (.long o.1)) o.2 := by
  unfold M_digest at hf
  refine ct_of (by decide) (Nat.le_of_ble_eq_true rfl) rfl (fun X hXl hX hR => ?_)
  subst hXl
  have hX : Fx X Y 1 b_M_digest 5 R_M 9 := hX
  refine g_ldc2 hX d_M_digest_0 q_738 ?_
  refine g_lstore_n hX (fun vq1 => [(1, .long vq1), (0, .ref (adr Y 43))]) d_M_digest_3 (by decide) (fun _ => rfl) hf (fun vq1 h2 => ?_)
  refine g_iconst hX 0 d_M_digest_4 (by decide) ?_
  refine g_istore_nV hX [(3, .int 0), (1, .long vq1), (0, .ref (adr Y 43))] d_M_digest_5 (by decide) rfl ?_
  obtain ⟨⟨vq6, σ7⟩, h11, h12⟩ := obind h2
  have h12 := lt2 h12
  have KX12 : Gd X Y 1 σ7 [(0, .ref (adr Y 43)), (1, .long vq6)] 31 [] := by
    refine g_iconst hX 0 d_M_digest_31 (by decide) ?_
    refine g_istore_nV hX [(3, .int 0), (0, .ref (adr Y 43)), (1, .long vq6)] d_M_digest_32 (by decide) rfl ?_
    obtain ⟨⟨vq28, σ29⟩, h33, h34⟩ := obind h12
    have h34 := lt2 h34
    have KX34 : Gd X Y 1 σ29 [(0, .ref (adr Y 43)), (1, .long vq28)] 73 [] := by
      refine g_ldc2 hX d_M_digest_73 q_739 ?_
      refine g_lload_n hX d_M_digest_76 1 rfl ?_
      refine g_lmul hX d_M_digest_77 ?_
      refine g_aload_n hX d_M_digest_78 0 rfl ?_
      obtain ⟨⟨vq54, σ55⟩, h56, h57⟩ := obind h34
      have h57 := lt2 h57
      refine g_callV hX [] [.long (31 * vq28)] mv_M_127 (c_M_manyNow X.2.1 Y σ29 _ h56) (by decide) iw_43 sh_43 rfl rfl rfl (Nat.le_of_ble_eq_true rfl) d_M_digest_79 (fun h58 => ?_)
      show Gd X Y 1 σ55 [(0, .ref (adr Y 43)), (1, .long vq28)] 82 [.int vq54, .long (31 * vq28)]
      refine g_i2l hX d_M_digest_82 ?_
      refine g_ladd hX d_M_digest_83 ?_
      refine g_lstore_n hX (fun vq59 => [(1, .long vq59), (0, .ref (adr Y 43))]) d_M_digest_84 (by decide) (fun _ => rfl) h57 (fun vq59 h60 => ?_)
      refine g_iconst hX (-1) d_M_digest_85 (by decide) ?_
      refine g_istore_nV hX [(3, .int (-1)), (1, .long vq59), (0, .ref (adr Y 43))] d_M_digest_86 (by decide) rfl ?_
      obtain ⟨⟨vq64, σ65⟩, h69, h70⟩ := obind h60
      have h70 := lt2 h70
      have KX70 : Gd X Y 1 σ65 [(0, .ref (adr Y 43)), (1, .long vq64)] 112 [] := by
        refine g_iconst hX 0 d_M_digest_112 (by decide) ?_
        refine g_istore_nV hX [(3, .int 0), (0, .ref (adr Y 43)), (1, .long vq64)] d_M_digest_113 (by decide) rfl ?_
        obtain ⟨⟨vq86, σ87⟩, h91, h92⟩ := obind h70
        have h92 := lt2 h92
        have KX92 : Gd X Y 1 σ87 [(0, .ref (adr Y 43)), (1, .long vq86)] 156 [] := by
          refine g_aload_n hX d_M_digest_156 0 rfl ?_
          refine g_lload_n hX d_M_digest_157 1 rfl ?_
          refine g_iconst hX 0 d_M_digest_158 (by decide) ?_
          obtain ⟨⟨vq120, σ121⟩, h122, h123⟩ := obind h92
          have h123 := lt2 h123
          refine g_callV hX [.long vq86, .int 0] [] mv_M_285 (c_M_rowDigest X.2.1 Y vq86 0 σ87 _ h122) (by decide) iw_43 sh_43 rfl rfl rfl (Nat.le_of_ble_eq_true rfl) d_M_digest_159 (fun h124 => ?_)
          show Gd X Y 1 σ121 [(0, .ref (adr Y 43)), (1, .long vq86)] 162 [.long vq120]
          refine g_lstore_n hX (fun vq125 => [(1, .long vq125), (0, .ref (adr Y 43))]) d_M_digest_162 (by decide) (fun _ => rfl) h123 (fun vq125 h126 => ?_)
          refine g_aload_n hX d_M_digest_163 1 rfl ?_
          refine g_lload_n hX d_M_digest_164 0 rfl ?_
          refine g_iconst hX 1 d_M_digest_165 (by decide) ?_
          obtain ⟨⟨vq127, σ128⟩, h129, h130⟩ := obind h126
          have h130 := lt2 h130
          refine g_callV hX [.long vq125, .int 1] [] mv_M_285 (c_M_rowDigest X.2.1 Y vq125 1 σ121 _ h129) (by decide) iw_43 sh_43 rfl rfl rfl (Nat.le_of_ble_eq_true rfl) d_M_digest_166 (fun h131 => ?_)
          show Gd X Y 1 σ128 [(1, .long vq125), (0, .ref (adr Y 43))] 169 [.long vq127]
          refine g_lstore_n hX (fun vq132 => [(1, .long vq132), (0, .ref (adr Y 43))]) d_M_digest_169 (by decide) (fun _ => rfl) h130 (fun vq132 h133 => ?_)
          refine g_aload_n hX d_M_digest_170 1 rfl ?_
          refine g_lload_n hX d_M_digest_171 0 rfl ?_
          refine g_iconst hX 2 d_M_digest_172 (by decide) ?_
          obtain ⟨⟨vq134, σ135⟩, h136, h137⟩ := obind h133
          have h137 := lt2 h137
          refine g_callV hX [.long vq132, .int 2] [] mv_M_285 (c_M_rowDigest X.2.1 Y vq132 2 σ128 _ h136) (by decide) iw_43 sh_43 rfl rfl rfl (Nat.le_of_ble_eq_true rfl) d_M_digest_173 (fun h138 => ?_)
          show Gd X Y 1 σ135 [(1, .long vq132), (0, .ref (adr Y 43))] 176 [.long vq134]
          refine g_lstore_n hX (fun vq139 => [(1, .long vq139), (0, .ref (adr Y 43))]) d_M_digest_176 (by decide) (fun _ => rfl) h137 (fun vq139 h140 => ?_)
          refine g_aload_n hX d_M_digest_177 1 rfl ?_
          refine g_lload_n hX d_M_digest_178 0 rfl ?_
          refine g_iconst hX 5 d_M_digest_179 (by decide) ?_
          obtain ⟨⟨vq141, σ142⟩, h143, h144⟩ := obind h140
          have h144 := lt2 h144
          refine g_callV hX [.long vq139, .int 5] [] mv_M_285 (c_M_rowDigest X.2.1 Y vq139 5 σ135 _ h143) (by decide) iw_43 sh_43 rfl rfl rfl (Nat.le_of_ble_eq_true rfl) d_M_digest_180 (fun h145 => ?_)
          show Gd X Y 1 σ142 [(1, .long vq139), (0, .ref (adr Y 43))] 183 [.long vq141]
          refine g_lstore_n hX (fun vq146 => [(1, .long vq146), (0, .ref (adr Y 43))]) d_M_digest_183 (by decide) (fun _ => rfl) h144 (fun vq146 h147 => ?_)
          refine g_aload_n hX d_M_digest_184 1 rfl ?_
          refine g_lload_n hX d_M_digest_185 0 rfl ?_
          refine g_bipush hX 100 d_M_digest_186 (by decide) ?_
          obtain ⟨⟨vq148, σ149⟩, h150, h151⟩ := obind h147
          have h151 := lt2 h151
          refine g_callV hX [.long vq146, .int 100] [] mv_M_285 (c_M_rowDigest X.2.1 Y vq146 100 σ142 _ h150) (by decide) iw_43 sh_43 rfl rfl rfl (Nat.le_of_ble_eq_true rfl) d_M_digest_188 (fun h152 => ?_)
          show Gd X Y 1 σ149 [(1, .long vq146), (0, .ref (adr Y 43))] 191 [.long vq148]
          refine g_lstore_n hX (fun vq153 => [(1, .long vq153), (0, .ref (adr Y 43))]) d_M_digest_191 (by decide) (fun _ => rfl) h151 (fun vq153 h154 => ?_)
          refine g_aload_n hX d_M_digest_192 1 rfl ?_
          refine g_lload_n hX d_M_digest_193 0 rfl ?_
          refine g_iconst hX 3 d_M_digest_194 (by decide) ?_
          obtain ⟨⟨vq155, σ156⟩, h157, h158⟩ := obind h154
          have h158 := lt2 h158
          refine g_callV hX [.long vq153, .int 3] [] mv_M_289 (c_M_setDigest X.2.1 Y vq153 3 σ149 _ h157) (by decide) iw_43 sh_43 rfl rfl rfl (Nat.le_of_ble_eq_true rfl) d_M_digest_195 (fun h159 => ?_)
          show Gd X Y 1 σ156 [(1, .long vq153), (0, .ref (adr Y 43))] 198 [.long vq155]
          refine g_lstore_n hX (fun vq160 => [(1, .long vq160), (0, .ref (adr Y 43))]) d_M_digest_198 (by decide) (fun _ => rfl) h158 (fun vq160 h161 => ?_)
          refine g_aload_n hX d_M_digest_199 1 rfl ?_
          refine g_lload_n hX d_M_digest_200 0 rfl ?_
          refine g_bipush hX 6 d_M_digest_201 (by decide) ?_
          obtain ⟨⟨vq162, σ163⟩, h164, h165⟩ := obind h161
          have h165 := lt2 h165
          refine g_callV hX [.long vq160, .int 6] [] mv_M_289 (c_M_setDigest X.2.1 Y vq160 6 σ156 _ h164) (by decide) iw_43 sh_43 rfl rfl rfl (Nat.le_of_ble_eq_true rfl) d_M_digest_203 (fun h166 => ?_)
          show Gd X Y 1 σ163 [(1, .long vq160), (0, .ref (adr Y 43))] 206 [.long vq162]
          refine g_lstore_n hX (fun vq167 => [(1, .long vq167), (0, .ref (adr Y 43))]) d_M_digest_206 (by decide) (fun _ => rfl) h165 (fun vq167 h168 => ?_)
          refine g_aload_n hX d_M_digest_207 1 rfl ?_
          refine g_lload_n hX d_M_digest_208 0 rfl ?_
          refine g_bipush hX 12 d_M_digest_209 (by decide) ?_
          obtain ⟨⟨vq169, σ170⟩, h171, h172⟩ := obind h168
          have h172 := lt2 h172
          refine g_callV hX [.long vq167, .int 12] [] mv_M_289 (c_M_setDigest X.2.1 Y vq167 12 σ163 _ h171) (by decide) iw_43 sh_43 rfl rfl rfl (Nat.le_of_ble_eq_true rfl) d_M_digest_211 (fun h173 => ?_)
          show Gd X Y 1 σ170 [(1, .long vq167), (0, .ref (adr Y 43))] 214 [.long vq169]
          refine g_lstore_n hX (fun vq174 => [(1, .long vq174), (0, .ref (adr Y 43))]) d_M_digest_214 (by decide) (fun _ => rfl) h172 (fun vq174 h175 => ?_)
          refine g_aload_n hX d_M_digest_215 1 rfl ?_
          refine g_lload_n hX d_M_digest_216 0 rfl ?_
          refine g_iconst hX 5 d_M_digest_217 (by decide) ?_
          obtain ⟨⟨vq176, σ177⟩, h178, h179⟩ := obind h175
          have h179 := lt2 h179
          refine g_callV hX [.long vq174, .int 5] [] mv_M_289 (c_M_setDigest X.2.1 Y vq174 5 σ170 _ h178) (by decide) iw_43 sh_43 rfl rfl rfl (Nat.le_of_ble_eq_true rfl) d_M_digest_218 (fun h180 => ?_)
          show Gd X Y 1 σ177 [(1, .long vq174), (0, .ref (adr Y 43))] 221 [.long vq176]
          refine g_lstore_n hX (fun vq181 => [(1, .long vq181), (0, .ref (adr Y 43))]) d_M_digest_221 (by decide) (fun _ => rfl) h179 (fun vq181 h182 => ?_)
          refine g_aload_n hX d_M_digest_222 1 rfl ?_
          refine g_lload_n hX d_M_digest_223 0 rfl ?_
          refine g_bipush hX 7 d_M_digest_224 (by decide) ?_
          obtain ⟨⟨vq183, σ184⟩, h185, h186⟩ := obind h182
          have h186 := lt2 h186
          refine g_callV hX [.long vq181, .int 7] [] mv_M_289 (c_M_setDigest X.2.1 Y vq181 7 σ177 _ h185) (by decide) iw_43 sh_43 rfl rfl rfl (Nat.le_of_ble_eq_true rfl) d_M_digest_226 (fun h187 => ?_)
          show Gd X Y 1 σ184 [(1, .long vq181), (0, .ref (adr Y 43))] 229 [.long vq183]
          refine g_lstore_n hX (fun vq188 => [(1, .long vq188), (0, .ref (adr Y 43))]) d_M_digest_229 (by decide) (fun _ => rfl) h186 (fun vq188 h189 => ?_)
          refine g_aload_n hX d_M_digest_230 1 rfl ?_
          refine g_lload_n hX d_M_digest_231 0 rfl ?_
          refine g_bipush hX 14 d_M_digest_232 (by decide) ?_
          obtain ⟨⟨vq190, σ191⟩, h192, h193⟩ := obind h189
          have h193 := lt2 h193
          refine g_callV hX [.long vq188, .int 14] [] mv_M_289 (c_M_setDigest X.2.1 Y vq188 14 σ184 _ h192) (by decide) iw_43 sh_43 rfl rfl rfl (Nat.le_of_ble_eq_true rfl) d_M_digest_234 (fun h194 => ?_)
          show Gd X Y 1 σ191 [(1, .long vq188), (0, .ref (adr Y 43))] 237 [.long vq190]
          refine g_lstore_n hX (fun vq195 => [(1, .long vq195), (0, .ref (adr Y 43))]) d_M_digest_237 (by decide) (fun _ => rfl) h193 (fun vq195 h196 => ?_)
          refine g_iconst hX 0 d_M_digest_238 (by decide) ?_
          refine g_istore_nV hX [(3, .int 0), (1, .long vq195), (0, .ref (adr Y 43))] d_M_digest_239 (by decide) rfl ?_
          obtain ⟨⟨vq200, σ201⟩, h205, h206⟩ := obind h196
          have h206 := lt2 h206
          have KX206 : Gd X Y 1 σ201 [(0, .ref (adr Y 43)), (1, .long vq200)] 304 [] := by
            refine g_ldc2 hX d_M_digest_304 q_739 ?_
            refine g_lload_n hX d_M_digest_307 1 rfl ?_
            refine g_lmul hX d_M_digest_308 ?_
            refine g_aload_n hX d_M_digest_309 0 rfl ?_
            obtain ⟨⟨vq241, σ242⟩, h243, h244⟩ := obind h206
            have h244 := lt2 h244
            refine g_callV hX [] [.long (31 * vq200)] mv_M_220 (c_M_spareOf X.2.1 Y σ201 _ h243) (by decide) iw_43 sh_43 rfl rfl rfl (Nat.le_of_ble_eq_true rfl) d_M_digest_310 (fun h245 => ?_)
            show Gd X Y 1 σ242 [(0, .ref (adr Y 43)), (1, .long vq200)] 313 [.int vq241, .long (31 * vq200)]
            refine g_i2l hX d_M_digest_313 ?_
            refine g_ladd hX d_M_digest_314 ?_
            refine g_lstore_n hX (fun vq246 => [(1, .long vq246), (0, .ref (adr Y 43))]) d_M_digest_315 (by decide) (fun _ => rfl) h244 (fun vq246 h247 => ?_)
            refine g_ldc2 hX d_M_digest_316 q_739 ?_
            refine g_lload_n hX d_M_digest_319 0 rfl ?_
            refine g_lmul hX d_M_digest_320 ?_
            refine g_aload_n hX d_M_digest_321 1 rfl ?_
            obtain ⟨vq248, h249, h250⟩ := obind h247
            refine g_callV hX [] [.long (31 * vq246)] mv_M_226 (c_M_faultOf X.2.1 Y σ242 _ h249) (by decide) iw_43 sh_43 rfl rfl rfl (Nat.le_of_ble_eq_true rfl) d_M_digest_322 (fun h251 => ?_)
            show Gd X Y 1 σ242 [(1, .long vq246), (0, .ref (adr Y 43))] 325 [.int vq248, .long (31 * vq246)]
            refine g_i2l hX d_M_digest_325 ?_
            refine g_ladd hX d_M_digest_326 ?_
            refine g_lstore_n hX (fun vq252 => [(1, .long vq252), (0, .ref (adr Y 43))]) d_M_digest_327 (by decide) (fun _ => rfl) h250 (fun vq252 h253 => ?_)
            refine g_ldc2 hX d_M_digest_328 q_739 ?_
            refine g_lload_n hX d_M_digest_331 0 rfl ?_
            refine g_lmul hX d_M_digest_332 ?_
            refine g_aload_n hX d_M_digest_333 1 rfl ?_
            obtain ⟨vq254, h255, h256⟩ := obind h253
            refine g_callV hX [] [.long (31 * vq252)] mv_M_295 (c_M_misses X.2.1 Y σ242 _ h255) (by decide) iw_43 sh_43 rfl rfl rfl (Nat.le_of_ble_eq_true rfl) d_M_digest_334 (fun h257 => ?_)
            show Gd X Y 1 σ242 [(1, .long vq252), (0, .ref (adr Y 43))] 337 [.int vq254, .long (31 * vq252)]
            refine g_i2l hX d_M_digest_337 ?_
            refine g_ladd hX d_M_digest_338 ?_
            refine g_lstore_n hX (fun vq258 => [(1, .long vq258), (0, .ref (adr Y 43))]) d_M_digest_339 (by decide) (fun _ => rfl) h256 (fun vq258 h259 => ?_)
            refine g_ldc2 hX d_M_digest_340 q_739 ?_
            refine g_lload_n hX d_M_digest_343 0 rfl ?_
            refine g_lmul hX d_M_digest_344 ?_
            refine g_aload_n hX d_M_digest_345 1 rfl ?_
            obtain ⟨⟨vq260, σ261⟩, h262, h263⟩ := obind h259
            have h263 := lt2 h263
            refine g_callV hX [] [.long (31 * vq258)] mv_M_298 (c_M_number X.2.1 Y σ242 _ h262) (by decide) iw_43 sh_43 rfl rfl rfl (Nat.le_of_ble_eq_true rfl) d_M_digest_346 (fun h264 => ?_)
            show Gd X Y 1 σ261 [(1, .long vq258), (0, .ref (adr Y 43))] 349 [.int vq260, .long (31 * vq258)]
            refine g_i2l hX d_M_digest_349 ?_
            refine g_ladd hX d_M_digest_350 ?_
            cases h263
            exact g_lreturn hX hR d_M_digest_351
          refine g_sub (lv2 := [(0, .ref (adr Y 43)), (1, .long vq195), (3, .int 0)]) [2, 1, 0] rfl ?_
          refine g_loop (fun s => M_digest_b7 s.1 s.2.1 s.2.2) (fun s => Gd X Y 1 s.2.2 [(0, .ref (adr Y 43)), (1, .long s.1), (3, .int s.2.1)] 240 []) (vq200, σ201) ?_ fuel (vq195, 0, σ191) h205
          intro s y204 h204 h202 h203
          obtain ⟨vq197, vq198, σ199⟩ := s
          have h204 : M_digest_b7 vq197 vq198 σ199 = some y204 := h204
          unfold M_digest_b7 at h204
          show Gd X Y 1 σ199 [(0, .ref (adr Y 43)), (1, .long vq197), (3, .int vq198)] 240 []
          refine g_iload_n hX d_M_digest_240 2 rfl ?_
          refine g_aload_n hX d_M_digest_241 0 rfl ?_
          refine g_getI hX iw_43 sh_43 rfl fl_M_7.f d_M_digest_242 ?_
          refine g_icmp_ge hX 304 d_M_digest_245 (by decide) h204 (fun h208 => ?_) (fun h209 => ?_)
          · refine g_sub (lv2 := [(0, .ref (adr Y 43)), (1, .long vq197)]) [0, 1] rfl ?_
            cases h208
            have h207 := h203 (vq197, σ199) rfl
            cases h207
            exact KX206
          · refine g_iconst hX 0 d_M_digest_248 (by decide) ?_
            refine g_istoreV hX [(4, .int 0), (0, .ref (adr Y 43)), (1, .long vq197), (3, .int vq198)] d_M_digest_249 (by decide) rfl ?_
            obtain ⟨⟨vq213, σ214⟩, h218, h219⟩ := obind h209
            have h219 := lt2 h219
            have KX219 : Gd X Y 1 σ214 [(0, .ref (adr Y 43)), (1, .long vq213), (3, .int vq198)] 298 [] := by
              refine g_iinc hX (fun vq239 => [(3, .int vq239), (0, .ref (adr Y 43)), (1, .long vq213)]) d_M_digest_298 2 rfl rfl (by decide) (fun _ => rfl) h219 (fun vq239 h240 => ?_)
              refine g_goto hX 240 d_M_digest_301 (by decide) ?_
              refine g_sub (lv2 := [(0, .ref (adr Y 43)), (1, .long vq213), (3, .int vq239)]) [1, 2, 0] rfl ?_
              cases h240
              exact h202 (vq213, vq239, σ214) rfl
            refine g_sub (lv2 := [(0, .ref (adr Y 43)), (1, .long vq197), (3, .int vq198), (4, .int 0)]) [1, 2, 3, 0] rfl ?_
            refine g_loop (fun s => M_digest_b6 vq198 s.1 s.2.1 s.2.2) (fun s => Gd X Y 1 s.2.2 [(0, .ref (adr Y 43)), (1, .long s.1), (3, .int vq198), (4, .int s.2.1)] 251 []) (vq213, σ214) ?_ fuel (vq197, 0, σ199) h218
            intro s y217 h217 h215 h216
            obtain ⟨vq210, vq211, σ212⟩ := s
            have h217 : M_digest_b6 vq198 vq210 vq211 σ212 = some y217 := h217
            unfold M_digest_b6 at h217
            show Gd X Y 1 σ212 [(0, .ref (adr Y 43)), (1, .long vq210), (3, .int vq198), (4, .int vq211)] 251 []
            refine g_iload hX d_M_digest_251 3 rfl ?_
            refine g_aload_n hX d_M_digest_253 0 rfl ?_
            refine g_getI hX iw_43 sh_43 rfl fl_M_7.f d_M_digest_254 ?_
            refine g_icmp_ge hX 298 d_M_digest_257 (by decide) h217 (fun h221 => ?_) (fun h222 => ?_)
            · refine g_sub (lv2 := [(0, .ref (adr Y 43)), (1, .long vq210), (3, .int vq198)]) [0, 1, 2] rfl ?_
              cases h221
              have h220 := h216 (vq210, σ212) rfl
              cases h220
              exact KX219
            · refine g_ldc2 hX d_M_digest_260 q_739 ?_
              refine g_lload_n hX d_M_digest_263 1 rfl ?_
              refine g_lmul hX d_M_digest_264 ?_
              refine g_aload_n hX d_M_digest_265 0 rfl ?_
              refine g_iload_n hX d_M_digest_266 2 rfl ?_
              refine g_iload hX d_M_digest_267 3 rfl ?_
              refine g_iconst hX 0 d_M_digest_269 (by decide) ?_
              obtain ⟨⟨vq223, σ224⟩, h225, h226⟩ := obind h222
              have h226 := lt2 h226
              refine g_callV hX [.int vq198, .int vq211, .int 0] [.long (31 * vq210)] mv_M_292 (c_M_apart X.2.1 Y vq198 vq211 0 σ212 _ h225) (by decide) iw_43 sh_43 rfl rfl rfl (Nat.le_of_ble_eq_true rfl) d_M_digest_270 (fun h227 => ?_)
              show Gd X Y 1 σ224 [(0, .ref (adr Y 43)), (1, .long vq210), (3, .int vq198), (4, .int vq211)] 273 [.int vq223, .long (31 * vq210)]
              refine g_i2l hX d_M_digest_273 ?_
              refine g_ladd hX d_M_digest_274 ?_
              refine g_lstore_n hX (fun vq228 => [(1, .long vq228), (0, .ref (adr Y 43)), (3, .int vq198), (4, .int vq211)]) d_M_digest_275 (by decide) (fun _ => rfl) h226 (fun vq228 h229 => ?_)
              refine g_ldc2 hX d_M_digest_276 q_739 ?_
              refine g_lload_n hX d_M_digest_279 0 rfl ?_
              refine g_lmul hX d_M_digest_280 ?_
              refine g_aload_n hX d_M_digest_281 1 rfl ?_
              refine g_iload_n hX d_M_digest_282 2 rfl ?_
              refine g_iload hX d_M_digest_283 3 rfl ?_
              refine g_iconst hX 1 d_M_digest_285 (by decide) ?_
              obtain ⟨⟨vq230, σ231⟩, h232, h233⟩ := obind h229
              have h233 := lt2 h233
              refine g_callV hX [.int vq198, .int vq211, .int 1] [.long (31 * vq228)] mv_M_292 (c_M_apart X.2.1 Y vq198 vq211 1 σ224 _ h232) (by decide) iw_43 sh_43 rfl rfl rfl (Nat.le_of_ble_eq_true rfl) d_M_digest_286 (fun h234 => ?_)
              show Gd X Y 1 σ231 [(1, .long vq228), (0, .ref (adr Y 43)), (3, .int vq198), (4, .int vq211)] 289 [.int vq230, .long (31 * vq228)]
              refine g_i2l hX d_M_digest_289 ?_
              refine g_ladd hX d_M_digest_290 ?_
              refine g_lstore_n hX (fun vq235 => [(1, .long vq235), (0, .ref (adr Y 43)), (3, .int vq198), (4, .int vq211)]) d_M_digest_291 (by decide) (fun _ => rfl) h233 (fun vq235 h236 => ?_)
              refine g_iinc hX (fun vq237 => [(4, .int vq237), (1, .long vq235), (0, .ref (adr Y 43)), (3, .int vq198)]) d_M_digest_292 3 rfl rfl (by decide) (fun _ => rfl) h236 (fun vq237 h238 => ?_)
              refine g_goto hX 251 d_M_digest_295 (by decide) ?_
              refine g_sub (lv2 := [(0, .ref (adr Y 43)), (1, .long vq235), (3, .int vq198), (4, .int vq237)]) [2, 1, 3, 0] rfl ?_
              cases h238
              exact h215 (vq235, vq237, σ231) rfl
        refine g_sub (lv2 := [(0, .ref (adr Y 43)), (1, .long vq64), (3, .int 0)]) [1, 2, 0] rfl ?_
        refine g_loop (fun s => M_digest_b5 s.1 s.2.1 s.2.2) (fun s => Gd X Y 1 s.2.2 [(0, .ref (adr Y 43)), (1, .long s.1), (3, .int s.2.1)] 114 []) (vq86, σ87) ?_ fuel (vq64, 0, σ65) h91
        intro s y90 h90 h88 h89
        obtain ⟨vq83, vq84, σ85⟩ := s
        have h90 : M_digest_b5 vq83 vq84 σ85 = some y90 := h90
        unfold M_digest_b5 at h90
        show Gd X Y 1 σ85 [(0, .ref (adr Y 43)), (1, .long vq83), (3, .int vq84)] 114 []
        refine g_iload_n hX d_M_digest_114 2 rfl ?_
        refine g_bipush hX 7 d_M_digest_115 (by decide) ?_
        refine g_icmp_ge hX 156 d_M_digest_117 (by decide) h90 (fun h94 => ?_) (fun h95 => ?_)
        · refine g_sub (lv2 := [(0, .ref (adr Y 43)), (1, .long vq83)]) [0, 1] rfl ?_
          cases h94
          have h93 := h89 (vq83, σ85) rfl
          cases h93
          exact KX92
        · refine g_iconst hX 0 d_M_digest_120 (by decide) ?_
          refine g_istoreV hX [(4, .int 0), (0, .ref (adr Y 43)), (1, .long vq83), (3, .int vq84)] d_M_digest_121 (by decide) rfl ?_
          obtain ⟨⟨vq99, σ100⟩, h104, h105⟩ := obind h95
          have h105 := lt2 h105
          have KX105 : Gd X Y 1 σ100 [(0, .ref (adr Y 43)), (1, .long vq99), (3, .int vq84)] 150 [] := by
            refine g_iinc hX (fun vq118 => [(3, .int vq118), (0, .ref (adr Y 43)), (1, .long vq99)]) d_M_digest_150 2 rfl rfl (by decide) (fun _ => rfl) h105 (fun vq118 h119 => ?_)
            refine g_goto hX 114 d_M_digest_153 (by decide) ?_
            refine g_sub (lv2 := [(0, .ref (adr Y 43)), (1, .long vq99), (3, .int vq118)]) [1, 2, 0] rfl ?_
            cases h119
            exact h88 (vq99, vq118, σ100) rfl
          refine g_sub (lv2 := [(0, .ref (adr Y 43)), (1, .long vq83), (3, .int vq84), (4, .int 0)]) [1, 2, 3, 0] rfl ?_
          refine g_loop (fun s => M_digest_b4 vq84 s.1 s.2.1 s.2.2) (fun s => Gd X Y 1 s.2.2 [(0, .ref (adr Y 43)), (1, .long s.1), (3, .int vq84), (4, .int s.2.1)] 123 []) (vq99, σ100) ?_ fuel (vq83, 0, σ85) h104
          intro s y103 h103 h101 h102
          obtain ⟨vq96, vq97, σ98⟩ := s
          have h103 : M_digest_b4 vq84 vq96 vq97 σ98 = some y103 := h103
          unfold M_digest_b4 at h103
          show Gd X Y 1 σ98 [(0, .ref (adr Y 43)), (1, .long vq96), (3, .int vq84), (4, .int vq97)] 123 []
          refine g_iload hX d_M_digest_123 3 rfl ?_
          refine g_iconst hX 3 d_M_digest_125 (by decide) ?_
          refine g_icmp_ge hX 150 d_M_digest_126 (by decide) h103 (fun h107 => ?_) (fun h108 => ?_)
          · refine g_sub (lv2 := [(0, .ref (adr Y 43)), (1, .long vq96), (3, .int vq84)]) [0, 1, 2] rfl ?_
            cases h107
            have h106 := h102 (vq96, σ98) rfl
            cases h106
            exact KX105
          · refine g_ldc2 hX d_M_digest_129 q_739 ?_
            refine g_lload_n hX d_M_digest_132 1 rfl ?_
            refine g_lmul hX d_M_digest_133 ?_
            refine g_aload_n hX d_M_digest_134 0 rfl ?_
            refine g_iload_n hX d_M_digest_135 2 rfl ?_
            refine g_iload hX d_M_digest_136 3 rfl ?_
            obtain ⟨⟨vq109, σ110⟩, h111, h112⟩ := obind h108
            have h112 := lt2 h112
            refine g_callV hX [.int vq84, .int vq97] [.long (31 * vq96)] mv_M_177 (c_M_nodeFor X.2.1 Y vq84 vq97 σ98 _ h111) (by decide) iw_43 sh_43 rfl rfl rfl (Nat.le_of_ble_eq_true rfl) d_M_digest_138 (fun h113 => ?_)
            show Gd X Y 1 σ110 [(0, .ref (adr Y 43)), (1, .long vq96), (3, .int vq84), (4, .int vq97)] 141 [.int vq109, .long (31 * vq96)]
            refine g_i2l hX d_M_digest_141 ?_
            refine g_ladd hX d_M_digest_142 ?_
            refine g_lstore_n hX (fun vq114 => [(1, .long vq114), (0, .ref (adr Y 43)), (3, .int vq84), (4, .int vq97)]) d_M_digest_143 (by decide) (fun _ => rfl) h112 (fun vq114 h115 => ?_)
            refine g_iinc hX (fun vq116 => [(4, .int vq116), (1, .long vq114), (0, .ref (adr Y 43)), (3, .int vq84)]) d_M_digest_144 3 rfl rfl (by decide) (fun _ => rfl) h115 (fun vq116 h117 => ?_)
            refine g_goto hX 123 d_M_digest_147 (by decide) ?_
            refine g_sub (lv2 := [(0, .ref (adr Y 43)), (1, .long vq114), (3, .int vq84), (4, .int vq116)]) [2, 1, 3, 0] rfl ?_
            cases h117
            exact h101 (vq114, vq116, σ110) rfl
      refine g_sub (lv2 := [(0, .ref (adr Y 43)), (1, .long vq59), (3, .int (-1))]) [2, 1, 0] rfl ?_
      refine g_loop (fun s => M_digest_b3 s.1 s.2.1 s.2.2) (fun s => Gd X Y 1 s.2.2 [(0, .ref (adr Y 43)), (1, .long s.1), (3, .int s.2.1)] 87 []) (vq64, σ65) ?_ fuel (vq59, (-1), σ55) h69
      intro s y68 h68 h66 h67
      obtain ⟨vq61, vq62, σ63⟩ := s
      have h68 : M_digest_b3 vq61 vq62 σ63 = some y68 := h68
      unfold M_digest_b3 at h68
      show Gd X Y 1 σ63 [(0, .ref (adr Y 43)), (1, .long vq61), (3, .int vq62)] 87 []
      refine g_iload_n hX d_M_digest_87 2 rfl ?_
      refine g_bipush hX 40 d_M_digest_88 (by decide) ?_
      refine g_icmp_ge hX 112 d_M_digest_90 (by decide) h68 (fun h72 => ?_) (fun h73 => ?_)
      · refine g_sub (lv2 := [(0, .ref (adr Y 43)), (1, .long vq61)]) [0, 1] rfl ?_
        cases h72
        have h71 := h67 (vq61, σ63) rfl
        cases h71
        exact KX70
      · refine g_ldc2 hX d_M_digest_93 q_739 ?_
        refine g_lload_n hX d_M_digest_96 1 rfl ?_
        refine g_lmul hX d_M_digest_97 ?_
        refine g_aload_n hX d_M_digest_98 0 rfl ?_
        refine g_iload_n hX d_M_digest_99 2 rfl ?_
        obtain ⟨⟨vq74, σ75⟩, h76, h77⟩ := obind h73
        have h77 := lt2 h77
        refine g_callV hX [.int vq62] [.long (31 * vq61)] mv_M_174 (c_M_treeOf X.2.1 Y vq62 σ63 _ h76) (by decide) iw_43 sh_43 rfl rfl rfl (Nat.le_of_ble_eq_true rfl) d_M_digest_100 (fun h78 => ?_)
        show Gd X Y 1 σ75 [(0, .ref (adr Y 43)), (1, .long vq61), (3, .int vq62)] 103 [.int vq74, .long (31 * vq61)]
        refine g_i2l hX d_M_digest_103 ?_
        refine g_ladd hX d_M_digest_104 ?_
        refine g_lstore_n hX (fun vq79 => [(1, .long vq79), (0, .ref (adr Y 43)), (3, .int vq62)]) d_M_digest_105 (by decide) (fun _ => rfl) h77 (fun vq79 h80 => ?_)
        refine g_iinc hX (fun vq81 => [(3, .int vq81), (1, .long vq79), (0, .ref (adr Y 43))]) d_M_digest_106 2 rfl rfl (by decide) (fun _ => rfl) h80 (fun vq81 h82 => ?_)
        refine g_goto hX 87 d_M_digest_109 (by decide) ?_
        refine g_sub (lv2 := [(0, .ref (adr Y 43)), (1, .long vq79), (3, .int vq81)]) [2, 1, 0] rfl ?_
        cases h82
        exact h66 (vq79, vq81, σ75) rfl
    refine g_sub (lv2 := [(0, .ref (adr Y 43)), (1, .long vq6), (3, .int 0)]) [1, 2, 0] rfl ?_
    refine g_loop (fun s => M_digest_b2 s.1 s.2.1 s.2.2) (fun s => Gd X Y 1 s.2.2 [(0, .ref (adr Y 43)), (1, .long s.1), (3, .int s.2.1)] 33 []) (vq28, σ29) ?_ fuel (vq6, 0, σ7) h33
    intro s y32 h32 h30 h31
    obtain ⟨vq25, vq26, σ27⟩ := s
    have h32 : M_digest_b2 vq25 vq26 σ27 = some y32 := h32
    unfold M_digest_b2 at h32
    show Gd X Y 1 σ27 [(0, .ref (adr Y 43)), (1, .long vq25), (3, .int vq26)] 33 []
    refine g_iload_n hX d_M_digest_33 2 rfl ?_
    refine g_aload_n hX d_M_digest_34 0 rfl ?_
    refine g_getI hX iw_43 sh_43 rfl fl_M_93.f d_M_digest_35 ?_
    refine g_icmp_ge hX 73 d_M_digest_38 (by decide) h32 (fun h36 => ?_) (fun h37 => ?_)
    · refine g_sub (lv2 := [(0, .ref (adr Y 43)), (1, .long vq25)]) [0, 1] rfl ?_
      cases h36
      have h35 := h31 (vq25, σ27) rfl
      cases h35
      exact KX34
    · refine g_ldc2 hX d_M_digest_41 q_739 ?_
      refine g_lload_n hX d_M_digest_44 1 rfl ?_
      refine g_lmul hX d_M_digest_45 ?_
      refine g_aload_n hX d_M_digest_46 0 rfl ?_
      refine g_iload_n hX d_M_digest_47 2 rfl ?_
      obtain ⟨⟨vq38, σ39⟩, h40, h41⟩ := obind h37
      have h41 := lt2 h41
      refine g_callV hX [.int vq26] [.long (31 * vq25)] mv_M_279 (c_M_taken X.2.1 Y vq26 σ27 _ h40) (by decide) iw_43 sh_43 rfl rfl rfl (Nat.le_of_ble_eq_true rfl) d_M_digest_48 (fun h42 => ?_)
      show Gd X Y 1 σ39 [(0, .ref (adr Y 43)), (1, .long vq25), (3, .int vq26)] 51 [.int vq38, .long (31 * vq25)]
      refine g_i2l hX d_M_digest_51 ?_
      refine g_ladd hX d_M_digest_52 ?_
      refine g_lstore_n hX (fun vq43 => [(1, .long vq43), (0, .ref (adr Y 43)), (3, .int vq26)]) d_M_digest_53 (by decide) (fun _ => rfl) h41 (fun vq43 h44 => ?_)
      refine g_ldc2 hX d_M_digest_54 q_739 ?_
      refine g_lload_n hX d_M_digest_57 0 rfl ?_
      refine g_lmul hX d_M_digest_58 ?_
      refine g_aload_n hX d_M_digest_59 1 rfl ?_
      refine g_iload_n hX d_M_digest_60 2 rfl ?_
      obtain ⟨⟨vq45, σ46⟩, h47, h48⟩ := obind h44
      have h48 := lt2 h48
      refine g_callV hX [.int vq26] [.long (31 * vq43)] mv_M_282 (c_M_reason X.2.1 Y vq26 σ39 _ h47) (by decide) iw_43 sh_43 rfl rfl rfl (Nat.le_of_ble_eq_true rfl) d_M_digest_61 (fun h49 => ?_)
      show Gd X Y 1 σ46 [(1, .long vq43), (0, .ref (adr Y 43)), (3, .int vq26)] 64 [.int vq45, .long (31 * vq43)]
      refine g_i2l hX d_M_digest_64 ?_
      refine g_ladd hX d_M_digest_65 ?_
      refine g_lstore_n hX (fun vq50 => [(1, .long vq50), (0, .ref (adr Y 43)), (3, .int vq26)]) d_M_digest_66 (by decide) (fun _ => rfl) h48 (fun vq50 h51 => ?_)
      refine g_iinc hX (fun vq52 => [(3, .int vq52), (1, .long vq50), (0, .ref (adr Y 43))]) d_M_digest_67 2 rfl rfl (by decide) (fun _ => rfl) h51 (fun vq52 h53 => ?_)
      refine g_goto hX 33 d_M_digest_70 (by decide) ?_
      refine g_sub (lv2 := [(0, .ref (adr Y 43)), (1, .long vq50), (3, .int vq52)]) [2, 1, 0] rfl ?_
      cases h53
      exact h30 (vq50, vq52, σ46) rfl
  refine g_sub (lv2 := [(0, .ref (adr Y 43)), (1, .long vq1), (3, .int 0)]) [2, 1, 0] rfl ?_
  refine g_loop (fun s => M_digest_b1 s.1 s.2.1 s.2.2) (fun s => Gd X Y 1 s.2.2 [(0, .ref (adr Y 43)), (1, .long s.1), (3, .int s.2.1)] 6 []) (vq6, σ7) ?_ fuel (vq1, 0, σ) h11
  intro s y10 h10 h8 h9
  obtain ⟨vq3, vq4, σ5⟩ := s
  have h10 : M_digest_b1 vq3 vq4 σ5 = some y10 := h10
  unfold M_digest_b1 at h10
  show Gd X Y 1 σ5 [(0, .ref (adr Y 43)), (1, .long vq3), (3, .int vq4)] 6 []
  refine g_iload_n hX d_M_digest_6 2 rfl ?_
  refine g_bipush hX 8 d_M_digest_7 (by decide) ?_
  refine g_icmp_ge hX 31 d_M_digest_9 (by decide) h10 (fun h14 => ?_) (fun h15 => ?_)
  · refine g_sub (lv2 := [(0, .ref (adr Y 43)), (1, .long vq3)]) [0, 1] rfl ?_
    cases h14
    have h13 := h9 (vq3, σ5) rfl
    cases h13
    exact KX12
  · refine g_ldc2 hX d_M_digest_12 q_739 ?_
    refine g_lload_n hX d_M_digest_15 1 rfl ?_
    refine g_lmul hX d_M_digest_16 ?_
    refine g_aload_n hX d_M_digest_17 0 rfl ?_
    refine g_iload_n hX d_M_digest_18 2 rfl ?_
    obtain ⟨⟨vq16, σ17⟩, h18, h19⟩ := obind h15
    have h19 := lt2 h19
    refine g_callV hX [.int vq4] [.long (31 * vq3)] mv_M_276 (c_M_count X.2.1 Y vq4 σ5 _ h18) (by decide) iw_43 sh_43 rfl rfl rfl (Nat.le_of_ble_eq_true rfl) d_M_digest_19 (fun h20 => ?_)
    show Gd X Y 1 σ17 [(0, .ref (adr Y 43)), (1, .long vq3), (3, .int vq4)] 22 [.int vq16, .long (31 * vq3)]
    refine g_i2l hX d_M_digest_22 ?_
    refine g_ladd hX d_M_digest_23 ?_
    refine g_lstore_n hX (fun vq21 => [(1, .long vq21), (0, .ref (adr Y 43)), (3, .int vq4)]) d_M_digest_24 (by decide) (fun _ => rfl) h19 (fun vq21 h22 => ?_)
    refine g_iinc hX (fun vq23 => [(3, .int vq23), (1, .long vq21), (0, .ref (adr Y 43))]) d_M_digest_25 2 rfl rfl (by decide) (fun _ => rfl) h22 (fun vq23 h24 => ?_)
    refine g_goto hX 6 d_M_digest_28 (by decide) ?_
    refine g_sub (lv2 := [(0, .ref (adr Y 43)), (1, .long vq21), (3, .int vq23)]) [2, 1, 0] rfl ?_
    cases h24
    exact h8 (vq21, vq23, σ17) rfl
