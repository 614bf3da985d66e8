noncomputable def M_findsParts_b1 (x1 : Int32) (vq1 : Int32) (vq3 : Int32) (vq4 : Int32) (σ5 : Mem) : Option ((Int32 × Int32 × Mem) ⊕ (Int32 × Mem)) := if 8 ≤ vq4 then some (.inr (vq3, σ5)) else ((if (M_isIn vq1 vq4) = 0 then some (vq3, σ5) else (M_partWith vq1 vq4 σ5).bind (fun vq24 => (M_least vq24).bind (fun vq28 => if vq28 = vq4 then (wr σ5 52 ((8 * x1) + vq3) vq24).bind (fun σ34 => lt (vq3 + 1) (fun vq36 => some (vq36, σ34))) else some (vq3, σ5))) : Option (Int32 × Mem))).bind (fun q => lt q.1 (fun vq22 => lt q.2 (fun σ23 => lt (vq4 + 1) (fun vq38 => some (.inl (vq22, vq38, σ23))))))
noncomputable def M_findsParts_b2 (x1 : Int32) (vq6 : Int32) (vq44 : Int32) (vq64 : Int32) (σ65 : Mem) : Option ((Int32 × Mem) ⊕ (Mem)) := if vq6 ≤ vq64 then some (.inr σ65) else (rd σ65 52 ((8 * x1) + vq44)).bind (fun vq75 => (rd σ65 52 ((8 * x1) + vq64)).bind (fun vq77 => (rd σ65 48 (vq75 ||| vq77)).bind (fun vq79 => ((if vq79 = 1 then some 1 else (rd σ65 50 x1).bind (fun vq86 => some vq86) : Option (Int32))).bind (fun vq88 => (wr σ65 50 x1 vq88).bind (fun σ89 => lt (vq64 + 1) (fun vq91 => some (.inl (vq91, σ89))))))))
noncomputable def M_findsParts_b3 (x1 : Int32) (vq6 : Int32) (vq44 : Int32) (σ45 : Mem) : Option ((Int32 × Mem) ⊕ (Mem)) := lt (if vq6 ≤ vq44 then false else if vq6 ≤ 2 then false else true : Bool) (fun bq53 => if bq53 = true then lt (vq44 + 1) (fun vq62 => (lp (fun s => M_findsParts_b2 x1 vq6 vq44 s.1 s.2) fuel (vq62, σ45)).bind (fun σ66 => lt (vq44 + 1) (fun vq93 => some (.inl (vq93, σ66))))) else some (.inr σ45))
noncomputable def M_findsParts (x1 : Int32) (σ : Mem) : Option (Mem) := (rd σ 49 x1).bind (fun vq1 => (lp (fun s => M_findsParts_b1 x1 vq1 s.1 s.2.1 s.2.2) fuel (0, 0, σ)).bind (fun q => lt q.1 (fun vq6 => lt q.2 (fun σ7 => (wr σ7 51 x1 vq6).bind (fun σ40 => (wr σ40 50 x1 0).bind (fun σ42 => (lp (fun s => M_findsParts_b3 x1 vq6 s.1 s.2) fuel (0, σ42)).bind (fun σ46 => (rd σ46 50 x1).bind (fun vq96 => ((if vq96 = 1 then (M_turnsRight x1 σ46).bind (fun σ104 => some σ104) else some σ46 : Option (Mem))).bind (fun σ103 => some σ103)))))))))
set_option maxHeartbeats 4000000 in
set_option maxRecDepth 100000 in
theorem c_M_findsParts (l : Launch) (Y : Wx) (x1 : Int32)  (σ : Mem) (o : Mem) (hf : M_findsParts x1 σ = some o) : Ct l Y 1 y_M_findsParts b_M_findsParts 6 none 3 [.ref (adr Y 43), .int x1] σ none o := by
  unfold M_findsParts at hf
  refine ct_of (by decide) (Nat.le_of_ble_eq_true rfl) rfl (fun X hXl hX hR => ?_)
  subst hXl
  have hX : Fx X Y 1 b_M_findsParts 6 R_M 3 := hX
  refine g_aload_n hX d_M_findsParts_0 0 rfl ?_
  refine g_getR hX iw_43 sh_43 rfl fl_M_29 d_M_findsParts_1 ?_
  refine g_iload_n hX d_M_findsParts_4 1 rfl ?_
  refine g_iaload hX iw_49 sh_49 d_M_findsParts_5 hf (fun vq1 h2 => ?_)
  refine g_istore_nV hX [(2, .int vq1), (0, .ref (adr Y 43)), (1, .int x1)] d_M_findsParts_6 (by decide) rfl ?_
  refine g_iconst hX 0 d_M_findsParts_7 (by decide) ?_
  refine g_istore_nV hX [(3, .int 0), (2, .int vq1), (0, .ref (adr Y 43)), (1, .int x1)] d_M_findsParts_8 (by decide) rfl ?_
  refine g_iconst hX 0 d_M_findsParts_9 (by decide) ?_
  refine g_istoreV hX [(4, .int 0), (3, .int 0), (2, .int vq1), (0, .ref (adr Y 43)), (1, .int x1)] d_M_findsParts_10 (by decide) rfl ?_
  obtain ⟨⟨vq6, σ7⟩, h11, h12⟩ := obind h2
  have h12 := lt2 h12
  have KX12 : Gd X Y 1 σ7 [(0, .ref (adr Y 43)), (1, .int x1), (3, .int vq6)] 69 [] := by
    refine g_aload_n hX d_M_findsParts_69 0 rfl ?_
    refine g_getR hX iw_43 sh_43 rfl fl_M_35 d_M_findsParts_70 ?_
    refine g_iload_n hX d_M_findsParts_73 1 rfl ?_
    refine g_iload_n hX d_M_findsParts_74 2 rfl ?_
    refine g_iastore hX iw_51 sh_51 d_M_findsParts_75 h12 (fun σ40 h41 => ?_)
    refine g_aload_n hX d_M_findsParts_76 0 rfl ?_
    refine g_getR hX iw_43 sh_43 rfl fl_M_32 d_M_findsParts_77 ?_
    refine g_iload_n hX d_M_findsParts_80 1 rfl ?_
    refine g_iconst hX 0 d_M_findsParts_81 (by decide) ?_
    refine g_iastore hX iw_50 sh_50 d_M_findsParts_82 h41 (fun σ42 h43 => ?_)
    refine g_iconst hX 0 d_M_findsParts_83 (by decide) ?_
    refine g_istoreV hX [(4, .int 0), (0, .ref (adr Y 43)), (1, .int x1), (3, .int vq6)] d_M_findsParts_84 (by decide) rfl ?_
    obtain ⟨σ46, h50, h51⟩ := obind h43
    have KX51 : Gd X Y 1 σ46 [(0, .ref (adr Y 43)), (1, .int x1)] 171 [] := by
      refine g_aload_n hX d_M_findsParts_171 0 rfl ?_
      refine g_getR hX iw_43 sh_43 rfl fl_M_32 d_M_findsParts_172 ?_
      refine g_iload_n hX d_M_findsParts_175 1 rfl ?_
      refine g_iaload hX iw_50 sh_50 d_M_findsParts_176 h51 (fun vq96 h97 => ?_)
      refine g_iconst hX 1 d_M_findsParts_177 (by decide) ?_
      obtain ⟨σ103, h98, h99⟩ := obind h97
      have KJ99 : Gd X Y 1 σ103 [] 186 [] := by
        cases h99
        exact g_return hX hR d_M_findsParts_186
      refine g_icmp_ne hX 186 d_M_findsParts_178 (by decide) h98 (fun h101 => ?_) (fun h102 => ?_)
      · refine g_sub (lv2 := []) [] rfl ?_
        cases h101
        exact KJ99
      · refine g_aload_n hX d_M_findsParts_181 0 rfl ?_
        refine g_iload_n hX d_M_findsParts_182 1 rfl ?_
        obtain ⟨σ104, h105, h106⟩ := obind h102
        refine g_callV hX [.int x1] [] mv_M_145 (c_M_turnsRight X.2.1 Y x1 σ46 _ h105) (by decide) iw_43 sh_43 rfl rfl rfl (Nat.le_of_ble_eq_true rfl) d_M_findsParts_183 (fun h107 => ?_)
        show Gd X Y 1 σ104 [(0, .ref (adr Y 43)), (1, .int x1)] 186 []
        refine g_sub (lv2 := []) [] rfl ?_
        cases h106
        exact KJ99
    refine g_sub (lv2 := [(0, .ref (adr Y 43)), (1, .int x1), (3, .int vq6), (4, .int 0)]) [1, 2, 3, 0] rfl ?_
    refine g_loop (fun s => M_findsParts_b3 x1 vq6 s.1 s.2) (fun s => Gd X Y 1 s.2 [(0, .ref (adr Y 43)), (1, .int x1), (3, .int vq6), (4, .int s.1)] 86 []) σ46 ?_ fuel (0, σ42) h50
    intro s y49 h49 h47 h48
    obtain ⟨vq44, σ45⟩ := s
    have h49 : M_findsParts_b3 x1 vq6 vq44 σ45 = some y49 := h49
    unfold M_findsParts_b3 at h49
    show Gd X Y 1 σ45 [(0, .ref (adr Y 43)), (1, .int x1), (3, .int vq6), (4, .int vq44)] 86 []
    refine g_iload hX d_M_findsParts_86 3 rfl ?_
    refine g_iload_n hX d_M_findsParts_88 2 rfl ?_
    obtain ⟨bq53, h54, h55⟩ := ltex h49
    have Kbq53t : bq53 = true → Gd X Y 1 σ45 [(0, .ref (adr Y 43)), (1, .int x1), (3, .int vq6), (4, .int vq44)] 97 [] := by
      intro h95
      have h60 := (if_pos h95).symm.trans h55
      refine g_iload hX d_M_findsParts_97 3 rfl ?_
      refine g_iconst hX 1 d_M_findsParts_99 (by decide) ?_
      refine g_iadd hX d_M_findsParts_100 ?_
      refine g_istore hX (fun vq62 => [(5, .int vq62), (0, .ref (adr Y 43)), (1, .int x1), (3, .int vq6), (4, .int vq44)]) d_M_findsParts_101 (by decide) (fun _ => rfl) h60 (fun vq62 h63 => ?_)
      obtain ⟨σ66, h70, h71⟩ := obind h63
      have KX71 : Gd X Y 1 σ66 [(0, .ref (adr Y 43)), (1, .int x1), (3, .int vq6), (4, .int vq44)] 165 [] := by
        refine g_iinc hX (fun vq93 => [(4, .int vq93), (0, .ref (adr Y 43)), (1, .int x1), (3, .int vq6)]) d_M_findsParts_165 3 rfl rfl (by decide) (fun _ => rfl) h71 (fun vq93 h94 => ?_)
        refine g_goto hX 86 d_M_findsParts_168 (by decide) ?_
        refine g_sub (lv2 := [(0, .ref (adr Y 43)), (1, .int x1), (3, .int vq6), (4, .int vq93)]) [1, 2, 3, 0] rfl ?_
        cases h94
        exact h47 (vq93, σ66) rfl
      refine g_sub (lv2 := [(0, .ref (adr Y 43)), (1, .int x1), (3, .int vq6), (4, .int vq44), (5, .int vq62)]) [1, 2, 3, 4, 0] rfl ?_
      refine g_loop (fun s => M_findsParts_b2 x1 vq6 vq44 s.1 s.2) (fun s => Gd X Y 1 s.2 [(0, .ref (adr Y 43)), (1, .int x1), (3, .int vq6), (4, .int vq44), (5, .int s.1)] 103 []) σ66 ?_ fuel (vq62, σ45) h70
      intro s y69 h69 h67 h68
      obtain ⟨vq64, σ65⟩ := s
      have h69 : M_findsParts_b2 x1 vq6 vq44 vq64 σ65 = some y69 := h69
      unfold M_findsParts_b2 at h69
      show Gd X Y 1 σ65 [(0, .ref (adr Y 43)), (1, .int x1), (3, .int vq6), (4, .int vq44), (5, .int vq64)] 103 []
      refine g_iload hX d_M_findsParts_103 4 rfl ?_
      refine g_iload_n hX d_M_findsParts_105 2 rfl ?_
      refine g_icmp_ge hX 165 d_M_findsParts_106 (by decide) h69 (fun h73 => ?_) (fun h74 => ?_)
      · refine g_sub (lv2 := [(0, .ref (adr Y 43)), (1, .int x1), (3, .int vq6), (4, .int vq44)]) [0, 1, 2, 3] rfl ?_
        cases h73
        have h72 := h68 σ65 rfl
        cases h72
        exact KX71
      · refine g_aload_n hX d_M_findsParts_109 0 rfl ?_
        refine g_getR hX iw_43 sh_43 rfl fl_M_32 d_M_findsParts_110 ?_
        refine g_iload_n hX d_M_findsParts_113 1 rfl ?_
        refine g_aload_n hX d_M_findsParts_114 0 rfl ?_
        refine g_getR hX iw_43 sh_43 rfl fl_M_26 d_M_findsParts_115 ?_
        refine g_aload_n hX d_M_findsParts_118 0 rfl ?_
        refine g_getR hX iw_43 sh_43 rfl fl_M_38 d_M_findsParts_119 ?_
        refine g_bipush hX 8 d_M_findsParts_122 (by decide) ?_
        refine g_iload_n hX d_M_findsParts_124 1 rfl ?_
        refine g_imul hX d_M_findsParts_125 ?_
        refine g_iload hX d_M_findsParts_126 3 rfl ?_
        refine g_iadd hX d_M_findsParts_128 ?_
        refine g_iaload hX iw_52 sh_52 d_M_findsParts_129 h74 (fun vq75 h76 => ?_)
        refine g_aload_n hX d_M_findsParts_130 0 rfl ?_
        refine g_getR hX iw_43 sh_43 rfl fl_M_38 d_M_findsParts_131 ?_
        refine g_bipush hX 8 d_M_findsParts_134 (by decide) ?_
        refine g_iload_n hX d_M_findsParts_136 1 rfl ?_
        refine g_imul hX d_M_findsParts_137 ?_
        refine g_iload hX d_M_findsParts_138 4 rfl ?_
        refine g_iadd hX d_M_findsParts_140 ?_
        refine g_iaload hX iw_52 sh_52 d_M_findsParts_141 h76 (fun vq77 h78 => ?_)
        refine g_ior hX d_M_findsParts_142 ?_
        refine g_iaload hX iw_48 sh_48 d_M_findsParts_143 h78 (fun vq79 h80 => ?_)
        refine g_iconst hX 1 d_M_findsParts_144 (by decide) ?_
        obtain ⟨vq88, h81, h82⟩ := obind h80
        have KJ82 : Gd X Y 1 σ65 [(0, .ref (adr Y 43)), (1, .int x1), (3, .int vq6), (4, .int vq44), (5, .int vq64)] 158 [.int vq88, .int x1, .ref (adr Y 50)] := by
          refine g_iastore hX iw_50 sh_50 d_M_findsParts_158 h82 (fun σ89 h90 => ?_)
          refine g_iinc hX (fun vq91 => [(5, .int vq91), (0, .ref (adr Y 43)), (1, .int x1), (3, .int vq6), (4, .int vq44)]) d_M_findsParts_159 4 rfl rfl (by decide) (fun _ => rfl) h90 (fun vq91 h92 => ?_)
          refine g_goto hX 103 d_M_findsParts_162 (by decide) ?_
          refine g_sub (lv2 := [(0, .ref (adr Y 43)), (1, .int x1), (3, .int vq6), (4, .int vq44), (5, .int vq91)]) [1, 2, 3, 4, 0] rfl ?_
          cases h92
          exact h67 (vq91, σ89) rfl
        refine g_icmp_ne hX 152 d_M_findsParts_145 (by decide) h81 (fun h84 => ?_) (fun h85 => ?_)
        · refine g_aload_n hX d_M_findsParts_152 0 rfl ?_
          refine g_getR hX iw_43 sh_43 rfl fl_M_32 d_M_findsParts_153 ?_
          refine g_iload_n hX d_M_findsParts_156 1 rfl ?_
          refine g_iaload hX iw_50 sh_50 d_M_findsParts_157 h84 (fun vq86 h87 => ?_)
          refine g_sub (lv2 := [(0, .ref (adr Y 43)), (1, .int x1), (3, .int vq6), (4, .int vq44), (5, .int vq64)]) [0, 1, 2, 3, 4] rfl ?_
          cases h87
          exact KJ82
        · refine g_iconst hX 1 d_M_findsParts_148 (by decide) ?_
          refine g_goto hX 158 d_M_findsParts_149 (by decide) ?_
          refine g_sub (lv2 := [(0, .ref (adr Y 43)), (1, .int x1), (3, .int vq6), (4, .int vq44), (5, .int vq64)]) [0, 1, 2, 3, 4] rfl ?_
          cases h85
          exact KJ82
    have Kbq53f : ¬ bq53 = true → Gd X Y 1 σ45 [(0, .ref (adr Y 43)), (1, .int x1), (3, .int vq6), (4, .int vq44)] 171 [] := by
      intro h95
      have h61 := (if_neg h95).symm.trans h55
      refine g_sub (lv2 := [(0, .ref (adr Y 43)), (1, .int x1)]) [0, 1] rfl ?_
      cases h61
      have h52 := h48 σ45 rfl
      cases h52
      exact KX51
    refine g_icmp_ge hX 171 d_M_findsParts_89 (by decide) h54 (fun h56 => ?_) (fun h57 => ?_)
    · cases h56
      exact Kbq53f (by decide)
    · refine g_iload_n hX d_M_findsParts_92 2 rfl ?_
      refine g_iconst hX 2 d_M_findsParts_93 (by decide) ?_
      refine g_icmp_le hX 171 d_M_findsParts_94 (by decide) h57 (fun h58 => ?_) (fun h59 => ?_)
      · cases h58
        exact Kbq53f (by decide)
      · cases h59
        exact Kbq53t rfl
  refine g_sub (lv2 := [(0, .ref (adr Y 43)), (1, .int x1), (2, .int vq1), (3, .int 0), (4, .int 0)]) [3, 4, 2, 1, 0] rfl ?_
  refine g_loop (fun s => M_findsParts_b1 x1 vq1 s.1 s.2.1 s.2.2) (fun s => Gd X Y 1 s.2.2 [(0, .ref (adr Y 43)), (1, .int x1), (2, .int vq1), (3, .int s.1), (4, .int s.2.1)] 12 []) (vq6, σ7) ?_ fuel (0, 0, σ) h11
  intro s y10 h10 h8 h9
  obtain ⟨vq3, vq4, σ5⟩ := s
  have h10 : M_findsParts_b1 x1 vq1 vq3 vq4 σ5 = some y10 := h10
  unfold M_findsParts_b1 at h10
  show Gd X Y 1 σ5 [(0, .ref (adr Y 43)), (1, .int x1), (2, .int vq1), (3, .int vq3), (4, .int vq4)] 12 []
  refine g_iload hX d_M_findsParts_12 4 rfl ?_
  refine g_bipush hX 8 d_M_findsParts_14 (by decide) ?_
  refine g_icmp_ge hX 69 d_M_findsParts_16 (by decide) h10 (fun h14 => ?_) (fun h15 => ?_)
  · refine g_sub (lv2 := [(0, .ref (adr Y 43)), (1, .int x1), (3, .int vq3)]) [0, 1, 3] rfl ?_
    cases h14
    have h13 := h9 (vq3, σ5) rfl
    cases h13
    exact KX12
  · refine g_iload_n hX d_M_findsParts_19 2 rfl ?_
    refine g_iload hX d_M_findsParts_20 4 rfl ?_
    refine g_callS hX [.int vq1, .int vq4] [] mv_M_81 (c_M_isIn X.2.1 Y vq1 vq4 σ5 _ rfl) (by decide) rfl rfl (Nat.le_of_ble_eq_true rfl) d_M_findsParts_22 (fun h16 => ?_)
    show Gd X Y 1 σ5 [(0, .ref (adr Y 43)), (1, .int x1), (2, .int vq1), (3, .int vq3), (4, .int vq4)] 25 [.int (M_isIn vq1 vq4)]
    obtain ⟨⟨vq22, σ23⟩, h17, h18⟩ := obind h15
    have h18 := lt2 h18
    have KJ18 : Gd X Y 1 σ23 [(0, .ref (adr Y 43)), (1, .int x1), (2, .int vq1), (3, .int vq22), (4, .int vq4)] 63 [] := by
      refine g_iinc hX (fun vq38 => [(4, .int vq38), (0, .ref (adr Y 43)), (1, .int x1), (2, .int vq1), (3, .int vq22)]) d_M_findsParts_63 4 rfl rfl (by decide) (fun _ => rfl) h18 (fun vq38 h39 => ?_)
      refine g_goto hX 12 d_M_findsParts_66 (by decide) ?_
      refine g_sub (lv2 := [(0, .ref (adr Y 43)), (1, .int x1), (2, .int vq1), (3, .int vq22), (4, .int vq38)]) [1, 2, 3, 4, 0] rfl ?_
      cases h39
      exact h8 (vq22, vq38, σ23) rfl
    refine g_if_eq hX 63 d_M_findsParts_25 (by decide) h17 (fun h20 => ?_) (fun h21 => ?_)
    · refine g_sub (lv2 := [(0, .ref (adr Y 43)), (1, .int x1), (2, .int vq1), (3, .int vq3), (4, .int vq4)]) [0, 1, 2, 3, 4] rfl ?_
      cases h20
      exact KJ18
    · refine g_aload_n hX d_M_findsParts_28 0 rfl ?_
      refine g_iload_n hX d_M_findsParts_29 2 rfl ?_
      refine g_iload hX d_M_findsParts_30 4 rfl ?_
      obtain ⟨vq24, h25, h26⟩ := obind h21
      refine g_callV hX [.int vq1, .int vq4] [] mv_M_139 (c_M_partWith X.2.1 Y vq1 vq4 σ5 _ h25) (by decide) iw_43 sh_43 rfl rfl rfl (Nat.le_of_ble_eq_true rfl) d_M_findsParts_32 (fun h27 => ?_)
      show Gd X Y 1 σ5 [(0, .ref (adr Y 43)), (1, .int x1), (2, .int vq1), (3, .int vq3), (4, .int vq4)] 35 [.int vq24]
      refine g_istoreV hX [(5, .int vq24), (0, .ref (adr Y 43)), (1, .int x1), (2, .int vq1), (3, .int vq3), (4, .int vq4)] d_M_findsParts_35 (by decide) rfl ?_
      refine g_iload hX d_M_findsParts_37 0 rfl ?_
      obtain ⟨vq28, h29, h30⟩ := obind h26
      refine g_callS hX [.int vq24] [] mv_M_142 (c_M_least X.2.1 Y vq24 σ5 _ h29) (by decide) rfl rfl (Nat.le_of_ble_eq_true rfl) d_M_findsParts_39 (fun h31 => ?_)
      show Gd X Y 1 σ5 [(5, .int vq24), (0, .ref (adr Y 43)), (1, .int x1), (2, .int vq1), (3, .int vq3), (4, .int vq4)] 42 [.int vq28]
      refine g_iload hX d_M_findsParts_42 5 rfl ?_
      refine g_icmp_ne hX 63 d_M_findsParts_44 (by decide) h30 (fun h32 => ?_) (fun h33 => ?_)
      · refine g_sub (lv2 := [(0, .ref (adr Y 43)), (1, .int x1), (2, .int vq1), (3, .int vq3), (4, .int vq4)]) [1, 2, 3, 4, 5] rfl ?_
        cases h32
        exact KJ18
      · refine g_aload_n hX d_M_findsParts_47 1 rfl ?_
        refine g_getR hX iw_43 sh_43 rfl fl_M_38 d_M_findsParts_48 ?_
        refine g_bipush hX 8 d_M_findsParts_51 (by decide) ?_
        refine g_iload_n hX d_M_findsParts_53 2 rfl ?_
        refine g_imul hX d_M_findsParts_54 ?_
        refine g_iload_n hX d_M_findsParts_55 4 rfl ?_
        refine g_iadd hX d_M_findsParts_56 ?_
        refine g_iload hX d_M_findsParts_57 0 rfl ?_
        refine g_iastore hX iw_52 sh_52 d_M_findsParts_59 h33 (fun σ34 h35 => ?_)
        refine g_iinc hX (fun vq36 => [(3, .int vq36), (5, .int vq24), (0, .ref (adr Y 43)), (1, .int x1), (2, .int vq1), (4, .int vq4)]) d_M_findsParts_60 4 rfl rfl (by decide) (fun _ => rfl) h35 (fun vq36 h37 => ?_)
        refine g_sub (lv2 := [(0, .ref (adr Y 43)), (1, .int x1), (2, .int vq1), (3, .int vq36), (4, .int vq4)]) [2, 3, 4, 0, 5] rfl ?_
        cases h37
        exact KJ18
noncomputable def M_nodeOf_b1 (x1 : Int32) (σ : Mem) (vq1 : Int32) (vq2 : Int32) : Option ((Int32 × Int32) ⊕ (Int32)) := if (σ 43 7) ≤ vq2 then some (.inr vq1) else (rd σ 49 vq2).bind (fun vq12 => lt (if vq12 = x1 then vq2 else vq1 : Int32) (fun vq19 => lt (vq2 + 1) (fun vq20 => some (.inl (vq19, vq20)))))
noncomputable def M_nodeOf (x1 : Int32) (σ : Mem) : Option (Int32) := (lp (fun s => M_nodeOf_b1 x1 σ s.1 s.2) fuel ((-1), 0)).bind (fun vq3 => some vq3)
set_option maxHeartbeats 4000000 in
set_option maxRecDepth 100000 in
theorem c_M_nodeOf (l : Launch) (Y : Wx) (x1 : Int32)  (σ : Mem) (o : Int32) (hf : M_nodeOf x1 σ = some o) : Ct l Y 1 y_M_nodeOf b_M_nodeOf 4 (some .int) 0 [.ref (adr Y 43), .int x1] σ (some (.int o)) σ := by
  unfold M_nodeOf at hf
  refine ct_of (by decide) (Nat.le_of_ble_eq_true rfl) rfl (fun X hXl hX hR => ?_)
  subst hXl
  have hX : Fx X Y 1 b_M_nodeOf 4 R_M 0 := hX
  refine g_iconst hX (-1) d_M_nodeOf_0 (by decide) ?_
  refine g_istore_nV hX [(2, .int (-1)), (0, .ref (adr Y 43)), (1, .int x1)] d_M_nodeOf_1 (by decide) rfl ?_
  refine g_iconst hX 0 d_M_nodeOf_2 (by decide) ?_
  refine g_istore_nV hX [(3, .int 0), (2, .int (-1)), (0, .ref (adr Y 43)), (1, .int x1)] d_M_nodeOf_3 (by decide) rfl ?_
  obtain ⟨vq3, h7, h8⟩ := obind hf
  have KX8 : Gd X Y 1 σ [(2, .int vq3)] 34 [] := by
    refine g_iload_n hX d_M_nodeOf_34 0 rfl ?_
    cases h8
    exact g_ireturn hX hR d_M_nodeOf_35
  refine g_sub (lv2 := [(0, .ref (adr Y 43)), (1, .int x1), (2, .int (-1)), (3, .int 0)]) [2, 3, 1, 0] rfl ?_
  refine g_loop (fun s => M_nodeOf_b1 x1 σ s.1 s.2) (fun s => Gd X Y 1 σ [(0, .ref (adr Y 43)), (1, .int x1), (2, .int s.1), (3, .int s.2)] 4 []) vq3 ?_ fuel ((-1), 0) h7
  intro s y6 h6 h4 h5
  obtain ⟨vq1, vq2⟩ := s
  have h6 : M_nodeOf_b1 x1 σ vq1 vq2 = some y6 := h6
  unfold M_nodeOf_b1 at h6
  show Gd X Y 1 σ [(0, .ref (adr Y 43)), (1, .int x1), (2, .int vq1), (3, .int vq2)] 4 []
  refine g_iload_n hX d_M_nodeOf_4 3 rfl ?_
  refine g_aload_n hX d_M_nodeOf_5 0 rfl ?_
  refine g_getI hX iw_43 sh_43 rfl fl_M_156.f d_M_nodeOf_6 ?_
  refine g_icmp_ge hX 34 d_M_nodeOf_9 (by decide) h6 (fun h10 => ?_) (fun h11 => ?_)
  · refine g_sub (lv2 := [(2, .int vq1)]) [2] rfl ?_
    cases h10
    have h9 := h5 vq1 rfl
    cases h9
    exact KX8
  · refine g_aload_n hX d_M_nodeOf_12 0 rfl ?_
    refine g_getR hX iw_43 sh_43 rfl fl_M_29 d_M_nodeOf_13 ?_
    refine g_iload_n hX d_M_nodeOf_16 3 rfl ?_
    refine g_iaload hX iw_49 sh_49 d_M_nodeOf_17 h11 (fun vq12 h13 => ?_)
    refine g_iload_n hX d_M_nodeOf_18 1 rfl ?_
    obtain ⟨vq19, h14, h15⟩ := ltex h13
    have KJ15 : Gd X Y 1 σ [(0, .ref (adr Y 43)), (1, .int x1), (3, .int vq2)] 27 [.int vq19] := by
      refine g_istore_nV hX [(2, .int vq19), (0, .ref (adr Y 43)), (1, .int x1), (3, .int vq2)] d_M_nodeOf_27 (by decide) rfl ?_
      refine g_iinc hX (fun vq20 => [(3, .int vq20), (2, .int vq19), (0, .ref (adr Y 43)), (1, .int x1)]) d_M_nodeOf_28 3 rfl rfl (by decide) (fun _ => rfl) h15 (fun vq20 h21 => ?_)
      refine g_goto hX 4 d_M_nodeOf_31 (by decide) ?_
      refine g_sub (lv2 := [(0, .ref (adr Y 43)), (1, .int x1), (2, .int vq19), (3, .int vq20)]) [2, 3, 1, 0] rfl ?_
      cases h21
      exact h4 (vq19, vq20) rfl
    refine g_icmp_ne hX 26 d_M_nodeOf_19 (by decide) h14 (fun h17 => ?_) (fun h18 => ?_)
    · refine g_iload_n hX d_M_nodeOf_26 2 rfl ?_
      refine g_sub (lv2 := [(0, .ref (adr Y 43)), (1, .int x1), (3, .int vq2)]) [0, 1, 3] rfl ?_
      cases h17
      exact KJ15
    · refine g_iload_n hX d_M_nodeOf_22 3 rfl ?_
      refine g_goto hX 27 d_M_nodeOf_23 (by decide) ?_
      refine g_sub (lv2 := [(0, .ref (adr Y 43)), (1, .int x1), (3, .int vq2)]) [0, 1, 3] rfl ?_
      cases h18
      exact KJ15
noncomputable def M_shows (x1 : Int32) (σ : Mem) : Option (Mem) := (wr σ 53 (σ 43 12) x1).bind (fun σ1 => lt (mput σ1 43 12 ((σ1 43 12) + 1)) (fun σ3 => some σ3))
set_option maxHeartbeats 4000000 in
set_option maxRecDepth 100000 in
theorem c_M_shows (l : Launch) (Y : Wx) (x1 : Int32)  (σ : Mem) (o : Mem) (hf : M_shows x1 σ = some o) : Ct l Y 1 y_M_shows b_M_shows 2 none 0 [.ref (adr Y 43), .int x1] σ none o := by
  unfold M_shows at hf
  refine ct_of (by decide) (Nat.le_of_ble_eq_true rfl) rfl (fun X hXl hX hR => ?_)
  subst hXl
  have hX : Fx X Y 1 b_M_shows 2 R_M 0 := hX
  refine g_aload_n hX d_M_shows_0 0 rfl ?_
  refine g_getR hX iw_43 sh_43 rfl fl_M_41 d_M_shows_1 ?_
  refine g_aload_n hX d_M_shows_4 0 rfl ?_
  refine g_getI hX iw_43 sh_43 rfl fl_M_159.f d_M_shows_5 ?_
  refine g_iload_n hX d_M_shows_8 1 rfl ?_
  refine g_iastore hX iw_53 sh_53 d_M_shows_9 hf (fun σ1 h2 => ?_)
  refine g_aload_n hX d_M_shows_10 0 rfl ?_
  refine g_dup hX d_M_shows_11 rfl ?_
  refine g_getI hX iw_43 sh_43 rfl fl_M_159.f d_M_shows_12 ?_
  refine g_iconst hX 1 d_M_shows_15 (by decide) ?_
  refine g_iadd hX d_M_shows_16 ?_
  refine g_putI hX iw_43 sh_43 rfl fl_M_159 d_M_shows_17 h2 (fun σ3 h4 => ?_)
  cases h4
  exact g_return hX hR d_M_shows_20
noncomputable def M_findsTree_b1 (vq38 : Int32) (vq76 : Int32) (vq77 : Int32) (σ78 : Mem) : Option ((Int32 × Int32 × Mem) ⊕ (Int32 × Mem)) := if vq77 < 0 then some (.inr (vq76, σ78)) else (rd σ78 52 ((8 * vq38) + vq77)).bind (fun vq89 => (wr σ78 55 vq76 vq89).bind (fun σ91 => lt (vq76 + 1) (fun vq93 => lt (vq77 + (-1)) (fun vq95 => some (.inl (vq93, vq95, σ91))))))
noncomputable def M_findsTree_b2  (vq12 : Int32) (σ13 : Mem) : Option ((Int32 × Mem) ⊕ (Mem)) := if vq12 ≤ 0 then some (.inr σ13) else lt (vq12 + (-1)) (fun vq23 => (rd σ13 55 vq23).bind (fun vq25 => ((if vq25 < 1000 then (M_many vq25).bind (fun vq32 => if vq32 = 1 then (M_least vq25).bind (fun vq99 => (M_shows (97 + vq99) σ13).bind (fun σ103 => some (vq23, σ103))) else lt (σ13 43 7) (fun vq38 => (wr σ13 49 vq38 vq25).bind (fun σ40 => lt (mput σ40 43 7 ((σ40 43 7) + 1)) (fun σ42 => (M_findsParts vq38 σ42).bind (fun σ44 => (rd σ44 50 vq38).bind (fun vq48 => lt (if vq48 = 1 then 91 else 40 : Int32) (fun vq55 => (M_shows vq55 σ44).bind (fun σ56 => (rd σ56 50 vq38).bind (fun vq60 => lt (if vq60 = 1 then 93 else 41 : Int32) (fun vq67 => (wr σ56 55 vq23 (1000 + vq67)).bind (fun σ68 => lt (vq23 + 1) (fun vq70 => (rd σ68 51 vq38).bind (fun vq72 => lt (vq72 - 1) (fun vq74 => (lp (fun s => M_findsTree_b1 vq38 s.1 s.2.1 s.2.2) fuel (vq70, vq74, σ68)).bind (fun q => lt q.1 (fun vq79 => lt q.2 (fun σ80 => some (vq79, σ80)))))))))))))))))) else (M_shows (vq25 - 1000) σ13).bind (fun σ107 => some (vq23, σ107)) : Option (Int32 × Mem))).bind (fun q => lt q.1 (fun vq97 => lt q.2 (fun σ98 => some (.inl (vq97, σ98)))))))
noncomputable def M_findsTree  (σ : Mem) : Option (Mem) := (M_findsStrong σ).bind (fun σ1 => lt (mput σ1 43 7 0) (fun σ5 => lt (mput σ5 43 12 0) (fun σ7 => (wr σ7 55 0 (M_all σ7)).bind (fun σ10 => (lp (fun s => M_findsTree_b2 s.1 s.2) fuel (1, σ10)).bind (fun σ14 => some σ14)))))
set_option maxHeartbeats 4000000 in
set_option maxRecDepth 100000 in
theorem c_M_findsTree (l : Launch) (Y : Wx)   (σ : Mem) (o : Mem) (hf : M_findsTree σ = some o) : Ct l Y 1 y_M_findsTree b_M_findsTree 5 none 6 [.ref (adr Y 43)] σ none o := by
  unfold M_findsTree at hf
  refine ct_of (by decide) (Nat.le_of_ble_eq_true rfl) rfl (fun X hXl hX hR => ?_)
  subst hXl
  have hX : Fx X Y 1 b_M_findsTree 5 R_M 6 := hX
  refine g_aload_n hX d_M_findsTree_0 0 rfl ?_
  obtain ⟨σ1, h2, h3⟩ := obind hf
  refine g_callV hX [] [] mv_M_162 (c_M_findsStrong X.2.1 Y σ _ h2) (by decide) iw_43 sh_43 rfl rfl rfl (Nat.le_of_ble_eq_true rfl) d_M_findsTree_1 (fun h4 => ?_)
  show Gd X Y 1 σ1 [(0, .ref (adr Y 43))] 4 []
  refine g_aload_n hX d_M_findsTree_4 0 rfl ?_
  refine g_iconst hX 0 d_M_findsTree_5 (by decide) ?_
  refine g_putI hX iw_43 sh_43 rfl fl_M_156 d_M_findsTree_6 h3 (fun σ5 h6 => ?_)
  refine g_aload_n hX d_M_findsTree_9 0 rfl ?_
  refine g_iconst hX 0 d_M_findsTree_10 (by decide) ?_
  refine g_putI hX iw_43 sh_43 rfl fl_M_159 d_M_findsTree_11 h6 (fun σ7 h8 => ?_)
  refine g_aload_n hX d_M_findsTree_14 0 rfl ?_
  refine g_getR hX iw_43 sh_43 rfl fl_M_47 d_M_findsTree_15 ?_
  refine g_iconst hX 0 d_M_findsTree_18 (by decide) ?_
  refine g_aload_n hX d_M_findsTree_19 0 rfl ?_
  refine g_callV hX [] [.int 0, .ref (adr Y 55)] mv_M_110 (c_M_all X.2.1 Y σ7 _ rfl) (by decide) iw_43 sh_43 rfl rfl rfl (Nat.le_of_ble_eq_true rfl) d_M_findsTree_20 (fun h9 => ?_)
  show Gd X Y 1 σ7 [(0, .ref (adr Y 43))] 23 [.int (M_all σ7), .int 0, .ref (adr Y 55)]
  refine g_iastore hX iw_55 sh_55 d_M_findsTree_23 h8 (fun σ10 h11 => ?_)
  refine g_iconst hX 1 d_M_findsTree_24 (by decide) ?_
  refine g_istore_nV hX [(1, .int 1), (0, .ref (adr Y 43))] d_M_findsTree_25 (by decide) rfl ?_
  obtain ⟨σ14, h18, h19⟩ := obind h11
  have KX19 : Gd X Y 1 σ14 [] 204 [] := by
    cases h19
    exact g_return hX hR d_M_findsTree_204
  refine g_sub (lv2 := [(0, .ref (adr Y 43)), (1, .int 1)]) [1, 0] rfl ?_
  refine g_loop (fun s => M_findsTree_b2 s.1 s.2) (fun s => Gd X Y 1 s.2 [(0, .ref (adr Y 43)), (1, .int s.1)] 26 []) σ14 ?_ fuel (1, σ10) h18
  intro s y17 h17 h15 h16
  obtain ⟨vq12, σ13⟩ := s
  have h17 : M_findsTree_b2 vq12 σ13 = some y17 := h17
  unfold M_findsTree_b2 at h17
  show Gd X Y 1 σ13 [(0, .ref (adr Y 43)), (1, .int vq12)] 26 []
  refine g_iload_n hX d_M_findsTree_26 1 rfl ?_
  refine g_if_le hX 204 d_M_findsTree_27 (by decide) h17 (fun h21 => ?_) (fun h22 => ?_)
  · refine g_sub (lv2 := []) [] rfl ?_
    cases h21
    have h20 := h16 σ13 rfl
    cases h20
    exact KX19
  · refine g_iinc hX (fun vq23 => [(1, .int vq23), (0, .ref (adr Y 43))]) d_M_findsTree_30 1 rfl rfl (by decide) (fun _ => rfl) h22 (fun vq23 h24 => ?_)
    refine g_aload_n hX d_M_findsTree_33 1 rfl ?_
    refine g_getR hX iw_43 sh_43 rfl fl_M_47 d_M_findsTree_34 ?_
    refine g_iload_n hX d_M_findsTree_37 0 rfl ?_
    refine g_iaload hX iw_55 sh_55 d_M_findsTree_38 h24 (fun vq25 h26 => ?_)
    refine g_istore_nV hX [(2, .int vq25), (1, .int vq23), (0, .ref (adr Y 43))] d_M_findsTree_39 (by decide) rfl ?_
    refine g_iload_n hX d_M_findsTree_40 0 rfl ?_
    refine g_sipush hX 1000 d_M_findsTree_41 (by decide) ?_
    obtain ⟨⟨vq97, σ98⟩, h27, h28⟩ := obind h26
    have h28 := lt2 h28
    have KJ28 : Gd X Y 1 σ98 [(0, .ref (adr Y 43)), (1, .int vq97)] 201 [] := by
      refine g_goto hX 26 d_M_findsTree_201 (by decide) ?_
      refine g_sub (lv2 := [(0, .ref (adr Y 43)), (1, .int vq97)]) [0, 1] rfl ?_
      cases h28
      exact h15 (vq97, σ98) rfl
    refine g_icmp_lt hX 59 d_M_findsTree_44 (by decide) h27 (fun h30 => ?_) (fun h31 => ?_)
    · refine g_iload_n hX d_M_findsTree_59 0 rfl ?_
      obtain ⟨vq32, h33, h34⟩ := obind h30
      refine g_callS hX [.int vq25] [] mv_M_89 (c_M_many X.2.1 Y vq25 σ13 _ h33) (by decide) rfl rfl (Nat.le_of_ble_eq_true rfl) d_M_findsTree_60 (fun h35 => ?_)
      show Gd X Y 1 σ13 [(2, .int vq25), (1, .int vq23), (0, .ref (adr Y 43))] 63 [.int vq32]
      refine g_iconst hX 1 d_M_findsTree_63 (by decide) ?_
      refine g_icmp_ne hX 81 d_M_findsTree_64 (by decide) h34 (fun h36 => ?_) (fun h37 => ?_)
      · refine g_aload_n hX d_M_findsTree_81 2 rfl ?_
        refine g_getI hX iw_43 sh_43 rfl fl_M_156.f d_M_findsTree_82 ?_
        refine g_istore_n hX (fun vq38 => [(3, .int vq38), (2, .int vq25), (1, .int vq23), (0, .ref (adr Y 43))]) d_M_findsTree_85 (by decide) (fun _ => rfl) h36 (fun vq38 h39 => ?_)
        refine g_aload_n hX d_M_findsTree_86 3 rfl ?_
        refine g_getR hX iw_43 sh_43 rfl fl_M_29 d_M_findsTree_87 ?_
        refine g_iload_n hX d_M_findsTree_90 0 rfl ?_
        refine g_iload_n hX d_M_findsTree_91 1 rfl ?_
        refine g_iastore hX iw_49 sh_49 d_M_findsTree_92 h39 (fun σ40 h41 => ?_)
        refine g_aload_n hX d_M_findsTree_93 3 rfl ?_
        refine g_dup hX d_M_findsTree_94 rfl ?_
        refine g_getI hX iw_43 sh_43 rfl fl_M_156.f d_M_findsTree_95 ?_
        refine g_iconst hX 1 d_M_findsTree_98 (by decide) ?_
        refine g_iadd hX d_M_findsTree_99 ?_
        refine g_putI hX iw_43 sh_43 rfl fl_M_156 d_M_findsTree_100 h41 (fun σ42 h43 => ?_)
        refine g_aload_n hX d_M_findsTree_103 3 rfl ?_
        refine g_iload_n hX d_M_findsTree_104 0 rfl ?_
        obtain ⟨σ44, h45, h46⟩ := obind h43
        refine g_callV hX [.int vq38] [] mv_M_168 (c_M_findsParts X.2.1 Y vq38 σ42 _ h45) (by decide) iw_43 sh_43 rfl rfl rfl (Nat.le_of_ble_eq_true rfl) d_M_findsTree_105 (fun h47 => ?_)
        show Gd X Y 1 σ44 [(3, .int vq38), (2, .int vq25), (1, .int vq23), (0, .ref (adr Y 43))] 108 []
        refine g_aload_n hX d_M_findsTree_108 3 rfl ?_
        refine g_aload_n hX d_M_findsTree_109 3 rfl ?_
        refine g_getR hX iw_43 sh_43 rfl fl_M_32 d_M_findsTree_110 ?_
        refine g_iload_n hX d_M_findsTree_113 0 rfl ?_
        refine g_iaload hX iw_50 sh_50 d_M_findsTree_114 h46 (fun vq48 h49 => ?_)
        refine g_iconst hX 1 d_M_findsTree_115 (by decide) ?_
        obtain ⟨vq55, h50, h51⟩ := ltex h49
        have KJ51 : Gd X Y 1 σ44 [(0, .ref (adr Y 43)), (1, .int vq23), (3, .int vq38)] 126 [.int vq55, .ref (adr Y 43)] := by
          obtain ⟨σ56, h57, h58⟩ := obind h51
          refine g_callV hX [.int vq55] [] mv_M_165 (c_M_shows X.2.1 Y vq55 σ44 _ h57) (by decide) iw_43 sh_43 rfl rfl rfl (Nat.le_of_ble_eq_true rfl) d_M_findsTree_126 (fun h59 => ?_)
          show Gd X Y 1 σ56 [(0, .ref (adr Y 43)), (1, .int vq23), (3, .int vq38)] 129 []
          refine g_aload_n hX d_M_findsTree_129 0 rfl ?_
          refine g_getR hX iw_43 sh_43 rfl fl_M_47 d_M_findsTree_130 ?_
          refine g_iload_n hX d_M_findsTree_133 1 rfl ?_
          refine g_sipush hX 1000 d_M_findsTree_134 (by decide) ?_
          refine g_aload_n hX d_M_findsTree_137 0 rfl ?_
          refine g_getR hX iw_43 sh_43 rfl fl_M_32 d_M_findsTree_138 ?_
          refine g_iload_n hX d_M_findsTree_141 2 rfl ?_
          refine g_iaload hX iw_50 sh_50 d_M_findsTree_142 h58 (fun vq60 h61 => ?_)
          refine g_iconst hX 1 d_M_findsTree_143 (by decide) ?_
          obtain ⟨vq67, h62, h63⟩ := ltex h61
          have KJ63 : Gd X Y 1 σ56 [(0, .ref (adr Y 43)), (1, .int vq23), (3, .int vq38)] 154 [.int vq67, .int 1000, .int vq23, .ref (adr Y 55)] := by
            refine g_iadd hX d_M_findsTree_154 ?_
            refine g_iastore hX iw_55 sh_55 d_M_findsTree_155 h63 (fun σ68 h69 => ?_)
            refine g_iinc hX (fun vq70 => [(1, .int vq70), (0, .ref (adr Y 43)), (3, .int vq38)]) d_M_findsTree_156 1 rfl rfl (by decide) (fun _ => rfl) h69 (fun vq70 h71 => ?_)
            refine g_aload_n hX d_M_findsTree_159 1 rfl ?_
            refine g_getR hX iw_43 sh_43 rfl fl_M_35 d_M_findsTree_160 ?_
            refine g_iload_n hX d_M_findsTree_163 2 rfl ?_
            refine g_iaload hX iw_51 sh_51 d_M_findsTree_164 h71 (fun vq72 h73 => ?_)
            refine g_iconst hX 1 d_M_findsTree_165 (by decide) ?_
            refine g_isub hX d_M_findsTree_166 ?_
            refine g_istore hX (fun vq74 => [(4, .int vq74), (1, .int vq70), (0, .ref (adr Y 43)), (3, .int vq38)]) d_M_findsTree_167 (by decide) (fun _ => rfl) h73 (fun vq74 h75 => ?_)
            obtain ⟨⟨vq79, σ80⟩, h84, h85⟩ := obind h75
            have h85 := lt2 h85
            have KX85 : Gd X Y 1 σ80 [(0, .ref (adr Y 43)), (1, .int vq79)] 201 [] := by
              refine g_sub (lv2 := [(0, .ref (adr Y 43)), (1, .int vq79)]) [0, 1] rfl ?_
              cases h85
              exact KJ28
            refine g_sub (lv2 := [(0, .ref (adr Y 43)), (1, .int vq70), (3, .int vq38), (4, .int vq74)]) [2, 1, 3, 0] rfl ?_
            refine g_loop (fun s => M_findsTree_b1 vq38 s.1 s.2.1 s.2.2) (fun s => Gd X Y 1 s.2.2 [(0, .ref (adr Y 43)), (1, .int s.1), (3, .int vq38), (4, .int s.2.1)] 169 []) (vq79, σ80) ?_ fuel (vq70, vq74, σ68) h84
            intro s y83 h83 h81 h82
            obtain ⟨vq76, vq77, σ78⟩ := s
            have h83 : M_findsTree_b1 vq38 vq76 vq77 σ78 = some y83 := h83
            unfold M_findsTree_b1 at h83
            show Gd X Y 1 σ78 [(0, .ref (adr Y 43)), (1, .int vq76), (3, .int vq38), (4, .int vq77)] 169 []
            refine g_iload hX d_M_findsTree_169 3 rfl ?_
            refine g_if_lt hX 201 d_M_findsTree_171 (by decide) h83 (fun h87 => ?_) (fun h88 => ?_)
            · refine g_sub (lv2 := [(0, .ref (adr Y 43)), (1, .int vq76)]) [0, 1] rfl ?_
              cases h87
              have h86 := h82 (vq76, σ78) rfl
              cases h86
              exact KX85
            · refine g_aload_n hX d_M_findsTree_174 0 rfl ?_
              refine g_getR hX iw_43 sh_43 rfl fl_M_47 d_M_findsTree_175 ?_
              refine g_iload_n hX d_M_findsTree_178 1 rfl ?_
              refine g_aload_n hX d_M_findsTree_179 0 rfl ?_
              refine g_getR hX iw_43 sh_43 rfl fl_M_38 d_M_findsTree_180 ?_
              refine g_bipush hX 8 d_M_findsTree_183 (by decide) ?_
              refine g_iload_n hX d_M_findsTree_185 2 rfl ?_
              refine g_imul hX d_M_findsTree_186 ?_
              refine g_iload hX d_M_findsTree_187 3 rfl ?_
              refine g_iadd hX d_M_findsTree_189 ?_
              refine g_iaload hX iw_52 sh_52 d_M_findsTree_190 h88 (fun vq89 h90 => ?_)
              refine g_iastore hX iw_55 sh_55 d_M_findsTree_191 h90 (fun σ91 h92 => ?_)
              refine g_iinc hX (fun vq93 => [(1, .int vq93), (0, .ref (adr Y 43)), (3, .int vq38), (4, .int vq77)]) d_M_findsTree_192 1 rfl rfl (by decide) (fun _ => rfl) h92 (fun vq93 h94 => ?_)
              refine g_iinc hX (fun vq95 => [(4, .int vq95), (1, .int vq93), (0, .ref (adr Y 43)), (3, .int vq38)]) d_M_findsTree_195 3 rfl rfl (by decide) (fun _ => rfl) h94 (fun vq95 h96 => ?_)
              refine g_goto hX 169 d_M_findsTree_198 (by decide) ?_
              refine g_sub (lv2 := [(0, .ref (adr Y 43)), (1, .int vq93), (3, .int vq38), (4, .int vq95)]) [2, 1, 3, 0] rfl ?_
              cases h96
              exact h81 (vq93, vq95, σ91) rfl
          refine g_icmp_ne hX 152 d_M_findsTree_144 (by decide) h62 (fun h65 => ?_) (fun h66 => ?_)
          · refine g_bipush hX 41 d_M_findsTree_152 (by decide) ?_
            refine g_sub (lv2 := [(0, .ref (adr Y 43)), (1, .int vq23), (3, .int vq38)]) [0, 1, 2] rfl ?_
            cases h65
            exact KJ63
          · refine g_bipush hX 93 d_M_findsTree_147 (by decide) ?_
            refine g_goto hX 154 d_M_findsTree_149 (by decide) ?_
            refine g_sub (lv2 := [(0, .ref (adr Y 43)), (1, .int vq23), (3, .int vq38)]) [0, 1, 2] rfl ?_
            cases h66
            exact KJ63
        refine g_icmp_ne hX 124 d_M_findsTree_116 (by decide) h50 (fun h53 => ?_) (fun h54 => ?_)
        · refine g_bipush hX 40 d_M_findsTree_124 (by decide) ?_
          refine g_sub (lv2 := [(0, .ref (adr Y 43)), (1, .int vq23), (3, .int vq38)]) [3, 2, 0] rfl ?_
          cases h53
          exact KJ51
        · refine g_bipush hX 91 d_M_findsTree_119 (by decide) ?_
          refine g_goto hX 126 d_M_findsTree_121 (by decide) ?_
          refine g_sub (lv2 := [(0, .ref (adr Y 43)), (1, .int vq23), (3, .int vq38)]) [3, 2, 0] rfl ?_
          cases h54
          exact KJ51
      · refine g_aload_n hX d_M_findsTree_67 2 rfl ?_
        refine g_bipush hX 97 d_M_findsTree_68 (by decide) ?_
        refine g_iload_n hX d_M_findsTree_70 0 rfl ?_
        obtain ⟨vq99, h100, h101⟩ := obind h37
        refine g_callS hX [.int vq25] [.int 97, .ref (adr Y 43)] mv_M_142 (c_M_least X.2.1 Y vq25 σ13 _ h100) (by decide) rfl rfl (Nat.le_of_ble_eq_true rfl) d_M_findsTree_71 (fun h102 => ?_)
        show Gd X Y 1 σ13 [(2, .int vq25), (1, .int vq23), (0, .ref (adr Y 43))] 74 [.int vq99, .int 97, .ref (adr Y 43)]
        refine g_iadd hX d_M_findsTree_74 ?_
        obtain ⟨σ103, h104, h105⟩ := obind h101
        refine g_callV hX [.int (97 + vq99)] [] mv_M_165 (c_M_shows X.2.1 Y (97 + vq99) σ13 _ h104) (by decide) iw_43 sh_43 rfl rfl rfl (Nat.le_of_ble_eq_true rfl) d_M_findsTree_75 (fun h106 => ?_)
        show Gd X Y 1 σ103 [(2, .int vq25), (1, .int vq23), (0, .ref (adr Y 43))] 78 []
        refine g_goto hX 201 d_M_findsTree_78 (by decide) ?_
        refine g_sub (lv2 := [(0, .ref (adr Y 43)), (1, .int vq23)]) [2, 1] rfl ?_
        cases h105
        exact KJ28
    · refine g_aload_n hX d_M_findsTree_47 2 rfl ?_
      refine g_iload_n hX d_M_findsTree_48 0 rfl ?_
      refine g_sipush hX 1000 d_M_findsTree_49 (by decide) ?_
      refine g_isub hX d_M_findsTree_52 ?_
      obtain ⟨σ107, h108, h109⟩ := obind h31
      refine g_callV hX [.int (vq25 - 1000)] [] mv_M_165 (c_M_shows X.2.1 Y (vq25 - 1000) σ13 _ h108) (by decide) iw_43 sh_43 rfl rfl rfl (Nat.le_of_ble_eq_true rfl) d_M_findsTree_53 (fun h110 => ?_)
      show Gd X Y 1 σ107 [(2, .int vq25), (1, .int vq23), (0, .ref (adr Y 43))] 56 []
      refine g_goto hX 201 d_M_findsTree_56 (by decide) ?_
      refine g_sub (lv2 := [(0, .ref (adr Y 43)), (1, .int vq23)]) [2, 1] rfl ?_
      cases h109
      exact KJ28
noncomputable def M_treeOf (x1 : Int32) (σ : Mem) : Option (Int32 × Mem) := (M_findsTree σ).bind (fun σ1 => ((if x1 = (-1) then some (σ1 43 12) else if (σ1 43 12) ≤ x1 then some (-1) else (rd σ1 53 x1).bind (fun vq13 => some vq13) : Option (Int32))).bind (fun vq12 => some (vq12, σ1)))
set_option maxHeartbeats 4000000 in
set_option maxRecDepth 100000 in
theorem c_M_treeOf (l : Launch) (Y : Wx) (x1 : Int32)  (σ : Mem) (o : Int32 × Mem) (hf : M_treeOf x1 σ = some o) : Ct l Y 1 y_M_treeOf b_M_treeOf 2 (some .int) 7 [.ref (adr Y 43), .int x1] σ (some (.int o.1)) o.2 := by
  unfold M_treeOf at hf
  refine ct_of (by decide) (Nat.le_of_ble_eq_true rfl) rfl (fun X hXl hX hR => ?_)
  subst hXl
  have hX : Fx X Y 1 b_M_treeOf 2 R_M 7 := hX
  refine g_aload_n hX d_M_treeOf_0 0 rfl ?_
  obtain ⟨σ1, h2, h3⟩ := obind hf
  refine g_callV hX [] [] mv_M_171 (c_M_findsTree X.2.1 Y σ _ h2) (by decide) iw_43 sh_43 rfl rfl rfl (Nat.le_of_ble_eq_true rfl) d_M_treeOf_1 (fun h4 => ?_)
  show Gd X Y 1 σ1 [(0, .ref (adr Y 43)), (1, .int x1)] 4 []
  refine g_iload_n hX d_M_treeOf_4 1 rfl ?_
  refine g_iconst hX (-1) d_M_treeOf_5 (by decide) ?_
  obtain ⟨vq12, h5, h6⟩ := obind h3
  have KJ6 : Gd X Y 1 σ1 [] 34 [.int vq12] := by
    cases h6
    exact g_ireturn hX hR d_M_treeOf_34
  refine g_icmp_ne hX 16 d_M_treeOf_6 (by decide) h5 (fun h8 => ?_) (fun h9 => ?_)
  · refine g_iload_n hX d_M_treeOf_16 1 rfl ?_
    refine g_aload_n hX d_M_treeOf_17 0 rfl ?_
    refine g_getI hX iw_43 sh_43 rfl fl_M_159.f d_M_treeOf_18 ?_
    refine g_icmp_ge hX 33 d_M_treeOf_21 (by decide) h8 (fun h10 => ?_) (fun h11 => ?_)
    · refine g_iconst hX (-1) d_M_treeOf_33 (by decide) ?_
      refine g_sub (lv2 := []) [] rfl ?_
      cases h10
      exact KJ6
    · refine g_aload_n hX d_M_treeOf_24 0 rfl ?_
      refine g_getR hX iw_43 sh_43 rfl fl_M_41 d_M_treeOf_25 ?_
      refine g_iload_n hX d_M_treeOf_28 1 rfl ?_
      refine g_iaload hX iw_53 sh_53 d_M_treeOf_29 h11 (fun vq13 h14 => ?_)
      refine g_goto hX 34 d_M_treeOf_30 (by decide) ?_
      refine g_sub (lv2 := []) [] rfl ?_
      cases h14
      exact KJ6
  · refine g_aload_n hX d_M_treeOf_9 0 rfl ?_
    refine g_getI hX iw_43 sh_43 rfl fl_M_159.f d_M_treeOf_10 ?_
    refine g_goto hX 34 d_M_treeOf_13 (by decide) ?_
    refine g_sub (lv2 := []) [] rfl ?_
    cases h9
    exact KJ6
noncomputable def M_tree (x1 : Int32) (σ : Mem) : Option (Int32 × Mem) := ((if (M_in x1 (-1) 39) = 0 then some ((-2), σ) else (M_treeOf x1 σ).bind (fun q => lt q.1 (fun vq9 => lt q.2 (fun σ10 => some (vq9, σ10)))) : Option (Int32 × Mem))).bind (fun q => lt q.1 (fun vq7 => lt q.2 (fun σ8 => some (vq7, σ8))))
set_option maxHeartbeats 4000000 in
set_option maxRecDepth 100000 in
theorem c_M_tree (l : Launch) (Y : Wx) (x1 : Int32)  (σ : Mem) (o : Int32 × Mem) (hf : M_tree x1 σ = some o) : Ct l Y 1 y_M_tree b_M_tree 2 (some .int) 8 [.ref (adr Y 43), .int x1] σ (some (.int o.1)) o.2 := by
  unfold M_tree at hf
  refine ct_of (by decide) (Nat.le_of_ble_eq_true rfl) rfl (fun X hXl hX hR => ?_)
  subst hXl
  have hX : Fx X Y 1 b_M_tree 2 R_M 8 := hX
  refine g_iload_n hX d_M_tree_0 1 rfl ?_
  refine g_iconst hX (-1) d_M_tree_1 (by decide) ?_
  refine g_bipush hX 39 d_M_tree_2 (by decide) ?_
  refine g_callS hX [.int x1, .int (-1), .int 39] [] mv_M_85 (c_M_in X.2.1 Y x1 (-1) 39 σ _ rfl) (by decide) rfl rfl (Nat.le_of_ble_eq_true rfl) d_M_tree_4 (fun h1 => ?_)
  show Gd X Y 1 σ [(0, .ref (adr Y 43)), (1, .int x1)] 7 [.int (M_in x1 (-1) 39)]
  obtain ⟨⟨vq7, σ8⟩, h2, h3⟩ := obind hf
  have h3 := lt2 h3
  have KJ3 : Gd X Y 1 σ8 [] 20 [.int vq7] := by
    cases h3
    exact g_ireturn hX hR d_M_tree_20
  refine g_if_eq hX 18 d_M_tree_7 (by decide) h2 (fun h5 => ?_) (fun h6 => ?_)
  · refine g_bipush hX (-2) d_M_tree_18 (by decide) ?_
    refine g_sub (lv2 := []) [] rfl ?_
    cases h5
    exact KJ3
  · refine g_aload_n hX d_M_tree_10 0 rfl ?_
    refine g_iload_n hX d_M_tree_11 1 rfl ?_
    obtain ⟨⟨vq9, σ10⟩, h11, h12⟩ := obind h6
    have h12 := lt2 h12
    refine g_callV hX [.int x1] [] mv_M_174 (c_M_treeOf X.2.1 Y x1 σ _ h11) (by decide) iw_43 sh_43 rfl rfl rfl (Nat.le_of_ble_eq_true rfl) d_M_tree_12 (fun h13 => ?_)
    show Gd X Y 1 σ10 [(0, .ref (adr Y 43)), (1, .int x1)] 15 [.int vq9]
    refine g_goto hX 20 d_M_tree_15 (by decide) ?_
    refine g_sub (lv2 := []) [] rfl ?_
    cases h12
    exact KJ3
noncomputable def M_nodeFor (x1 : Int32) (x2 : Int32) (σ : Mem) : Option (Int32 × Mem) := (M_findsTree σ).bind (fun σ1 => ((if x1 < (σ1 43 7) then if x2 = 0 then (rd σ1 50 x1).bind (fun vq19 => some vq19) else if x2 = 1 then (rd σ1 51 x1).bind (fun vq17 => some vq17) else (rd σ1 49 x1).bind (fun vq14 => some vq14) else some (-1) : Option (Int32))).bind (fun vq16 => some (vq16, σ1)))
set_option maxHeartbeats 4000000 in
set_option maxRecDepth 100000 in
theorem c_M_nodeFor (l : Launch) (Y : Wx) (x1 : Int32) (x2 : Int32)  (σ : Mem) (o : Int32 × Mem) (hf : M_nodeFor x1 x2 σ = some o) : Ct l Y 1 y_M_nodeFor b_M_nodeFor 3 (some .int) 7 [.ref (adr Y 43), .int x1, .int x2] σ (some (.int o.1)) o.2 := by
  unfold M_nodeFor at hf
  refine ct_of (by decide) (Nat.le_of_ble_eq_true rfl) rfl (fun X hXl hX hR => ?_)
  subst hXl
  have hX : Fx X Y 1 b_M_nodeFor 3 R_M 7 := hX
  refine g_aload_n hX d_M_nodeFor_0 0 rfl ?_
  obtain ⟨σ1, h2, h3⟩ := obind hf
  refine g_callV hX [] [] mv_M_171 (c_M_findsTree X.2.1 Y σ _ h2) (by decide) iw_43 sh_43 rfl rfl rfl (Nat.le_of_ble_eq_true rfl) d_M_nodeFor_1 (fun h4 => ?_)
  show Gd X Y 1 σ1 [(0, .ref (adr Y 43)), (1, .int x1), (2, .int x2)] 4 []
  refine g_iload_n hX d_M_nodeFor_4 1 rfl ?_
  refine g_aload_n hX d_M_nodeFor_5 0 rfl ?_
  refine g_getI hX iw_43 sh_43 rfl fl_M_156.f d_M_nodeFor_6 ?_
  obtain ⟨vq16, h5, h6⟩ := obind h3
  have KJ6 : Gd X Y 1 σ1 [] 49 [.int vq16] := by
    cases h6
    exact g_ireturn hX hR d_M_nodeFor_49
  refine g_icmp_lt hX 16 d_M_nodeFor_9 (by decide) h5 (fun h8 => ?_) (fun h9 => ?_)
  · refine g_iload_n hX d_M_nodeFor_16 2 rfl ?_
    refine g_if_ne hX 29 d_M_nodeFor_17 (by decide) h8 (fun h10 => ?_) (fun h11 => ?_)
    · refine g_iload_n hX d_M_nodeFor_29 2 rfl ?_
      refine g_iconst hX 1 d_M_nodeFor_30 (by decide) ?_
      refine g_icmp_ne hX 43 d_M_nodeFor_31 (by decide) h10 (fun h12 => ?_) (fun h13 => ?_)
      · refine g_aload_n hX d_M_nodeFor_43 0 rfl ?_
        refine g_getR hX iw_43 sh_43 rfl fl_M_29 d_M_nodeFor_44 ?_
        refine g_iload_n hX d_M_nodeFor_47 1 rfl ?_
        refine g_iaload hX iw_49 sh_49 d_M_nodeFor_48 h12 (fun vq14 h15 => ?_)
        refine g_sub (lv2 := []) [] rfl ?_
        cases h15
        exact KJ6
      · refine g_aload_n hX d_M_nodeFor_34 0 rfl ?_
        refine g_getR hX iw_43 sh_43 rfl fl_M_35 d_M_nodeFor_35 ?_
        refine g_iload_n hX d_M_nodeFor_38 1 rfl ?_
        refine g_iaload hX iw_51 sh_51 d_M_nodeFor_39 h13 (fun vq17 h18 => ?_)
        refine g_goto hX 49 d_M_nodeFor_40 (by decide) ?_
        refine g_sub (lv2 := []) [] rfl ?_
        cases h18
        exact KJ6
    · refine g_aload_n hX d_M_nodeFor_20 0 rfl ?_
      refine g_getR hX iw_43 sh_43 rfl fl_M_32 d_M_nodeFor_21 ?_
      refine g_iload_n hX d_M_nodeFor_24 1 rfl ?_
      refine g_iaload hX iw_50 sh_50 d_M_nodeFor_25 h11 (fun vq19 h20 => ?_)
      refine g_goto hX 49 d_M_nodeFor_26 (by decide) ?_
      refine g_sub (lv2 := []) [] rfl ?_
      cases h20
      exact KJ6
  · refine g_iconst hX (-1) d_M_nodeFor_12 (by decide) ?_
    refine g_goto hX 49 d_M_nodeFor_13 (by decide) ?_
    refine g_sub (lv2 := []) [] rfl ?_
    cases h9
    exact KJ6
noncomputable def M_node (x1 : Int32) (x2 : Int32) (σ : Mem) : Option (Int32 × Mem) := lt (if (M_in x1 0 6) = 0 then false else if (M_in x2 0 2) = 0 then false else true : Bool) (fun bq2 => ((if bq2 = true then (M_nodeFor x1 x2 σ).bind (fun q => lt q.1 (fun vq15 => lt q.2 (fun σ16 => some (vq15, σ16)))) else some ((-2), σ) : Option (Int32 × Mem))).bind (fun q => lt q.1 (fun vq20 => lt q.2 (fun σ21 => some (vq20, σ21)))))
set_option maxHeartbeats 4000000 in
set_option maxRecDepth 100000 in
theorem c_M_node (l : Launch) (Y : Wx) (x1 : Int32) (x2 : Int32)  (σ : Mem) (o : Int32 × Mem) (hf : M_node x1 x2 σ = some o) : Ct l Y 1 y_M_node b_M_node 3 (some .int) 8 [.ref (adr Y 43), .int x1, .int x2] σ (some (.int o.1)) o.2 := by
  unfold M_node at hf
  refine ct_of (by decide) (Nat.le_of_ble_eq_true rfl) rfl (fun X hXl hX hR => ?_)
  subst hXl
  have hX : Fx X Y 1 b_M_node 3 R_M 8 := hX
  refine g_iload_n hX d_M_node_0 1 rfl ?_
  refine g_iconst hX 0 d_M_node_1 (by decide) ?_
  refine g_bipush hX 6 d_M_node_2 (by decide) ?_
  refine g_callS hX [.int x1, .int 0, .int 6] [] mv_M_85 (c_M_in X.2.1 Y x1 0 6 σ _ rfl) (by decide) rfl rfl (Nat.le_of_ble_eq_true rfl) d_M_node_4 (fun h1 => ?_)
  show Gd X Y 1 σ [(0, .ref (adr Y 43)), (1, .int x1), (2, .int x2)] 7 [.int (M_in x1 0 6)]
  obtain ⟨bq2, h3, h4⟩ := ltex hf
  obtain ⟨⟨vq20, σ21⟩, h10, h11⟩ := obind h4
  have h11 := lt2 h11
  have KJ11 : Gd X Y 1 σ21 [] 30 [.int vq20] := by
    cases h11
    exact g_ireturn hX hR d_M_node_30
  have Kbq2t : bq2 = true → Gd X Y 1 σ [(0, .ref (adr Y 43)), (1, .int x1), (2, .int x2)] 19 [] := by
    intro h22
    have h13 := (if_pos h22).symm.trans h10
    refine g_aload_n hX d_M_node_19 0 rfl ?_
    refine g_iload_n hX d_M_node_20 1 rfl ?_
    refine g_iload_n hX d_M_node_21 2 rfl ?_
    obtain ⟨⟨vq15, σ16⟩, h17, h18⟩ := obind h13
    have h18 := lt2 h18
    refine g_callV hX [.int x1, .int x2] [] mv_M_177 (c_M_nodeFor X.2.1 Y x1 x2 σ _ h17) (by decide) iw_43 sh_43 rfl rfl rfl (Nat.le_of_ble_eq_true rfl) d_M_node_22 (fun h19 => ?_)
    show Gd X Y 1 σ16 [(0, .ref (adr Y 43)), (1, .int x1), (2, .int x2)] 25 [.int vq15]
    refine g_goto hX 30 d_M_node_25 (by decide) ?_
    refine g_sub (lv2 := []) [] rfl ?_
    cases h18
    exact KJ11
  have Kbq2f : ¬ bq2 = true → Gd X Y 1 σ [(0, .ref (adr Y 43)), (1, .int x1), (2, .int x2)] 28 [] := by
    intro h22
    have h14 := (if_neg h22).symm.trans h10
    refine g_bipush hX (-2) d_M_node_28 (by decide) ?_
    refine g_sub (lv2 := []) [] rfl ?_
    cases h14
    exact KJ11
  refine g_if_eq hX 28 d_M_node_7 (by decide) h3 (fun h5 => ?_) (fun h6 => ?_)
  · cases h5
    exact Kbq2f (by decide)
  · refine g_iload_n hX d_M_node_10 2 rfl ?_
    refine g_iconst hX 0 d_M_node_11 (by decide) ?_
    refine g_iconst hX 2 d_M_node_12 (by decide) ?_
    refine g_callS hX [.int x2, .int 0, .int 2] [] mv_M_85 (c_M_in X.2.1 Y x2 0 2 σ _ rfl) (by decide) rfl rfl (Nat.le_of_ble_eq_true rfl) d_M_node_13 (fun h7 => ?_)
    show Gd X Y 1 σ [(0, .ref (adr Y 43)), (1, .int x1), (2, .int x2)] 16 [.int (M_in x2 0 2)]
    refine g_if_eq hX 28 d_M_node_16 (by decide) h6 (fun h8 => ?_) (fun h9 => ?_)
    · cases h8
      exact Kbq2f (by decide)
    · cases h9
      exact Kbq2t rfl
noncomputable def M_factorial_b1 (x0 : Int32) (vq1 : Int32) (vq2 : Int32) : Option ((Int32 × Int32) ⊕ (Int32)) := if x0 < vq2 then some (.inr vq1) else lt (vq1 * vq2) (fun vq12 => lt (vq2 + 1) (fun vq14 => some (.inl (vq12, vq14))))
noncomputable def M_factorial (x0 : Int32) : Option (Int32) := (lp (fun s => M_factorial_b1 x0 s.1 s.2) fuel (1, 2)).bind (fun vq3 => some vq3)
set_option maxHeartbeats 4000000 in
set_option maxRecDepth 100000 in
theorem c_M_factorial (l : Launch) (Y : Wx) (x0 : Int32)  (σ : Mem) (o : Int32) (hf : M_factorial x0 = some o) : Ct l Y 1 y_M_factorial b_M_factorial 3 (some .int) 0 [.int x0] σ (some (.int o)) σ := by
  unfold M_factorial at hf
  refine ct_of (by decide) (Nat.le_of_ble_eq_true rfl) rfl (fun X hXl hX hR => ?_)
  subst hXl
  have hX : Fx X Y 1 b_M_factorial 3 R_M 0 := hX
  refine g_iconst hX 1 d_M_factorial_0 (by decide) ?_
  refine g_istore_nV hX [(1, .int 1), (0, .int x0)] d_M_factorial_1 (by decide) rfl ?_
  refine g_iconst hX 2 d_M_factorial_2 (by decide) ?_
  refine g_istore_nV hX [(2, .int 2), (1, .int 1), (0, .int x0)] d_M_factorial_3 (by decide) rfl ?_
  obtain ⟨vq3, h7, h8⟩ := obind hf
  have KX8 : Gd X Y 1 σ [(1, .int vq3)] 19 [] := by
    refine g_iload_n hX d_M_factorial_19 0 rfl ?_
    cases h8
    exact g_ireturn hX hR d_M_factorial_20
  refine g_sub (lv2 := [(0, .int x0), (1, .int 1), (2, .int 2)]) [2, 1, 0] rfl ?_
  refine g_loop (fun s => M_factorial_b1 x0 s.1 s.2) (fun s => Gd X Y 1 σ [(0, .int x0), (1, .int s.1), (2, .int s.2)] 4 []) vq3 ?_ fuel (1, 2) h7
  intro s y6 h6 h4 h5
  obtain ⟨vq1, vq2⟩ := s
  have h6 : M_factorial_b1 x0 vq1 vq2 = some y6 := h6
  unfold M_factorial_b1 at h6
  show Gd X Y 1 σ [(0, .int x0), (1, .int vq1), (2, .int vq2)] 4 []
  refine g_iload_n hX d_M_factorial_4 2 rfl ?_
  refine g_iload_n hX d_M_factorial_5 0 rfl ?_
  refine g_icmp_gt hX 19 d_M_factorial_6 (by decide) h6 (fun h10 => ?_) (fun h11 => ?_)
  · refine g_sub (lv2 := [(1, .int vq1)]) [1] rfl ?_
    cases h10
    have h9 := h5 vq1 rfl
    cases h9
    exact KX8
  · refine g_iload_n hX d_M_factorial_9 1 rfl ?_
    refine g_iload_n hX d_M_factorial_10 2 rfl ?_
    refine g_imul hX d_M_factorial_11 ?_
    refine g_istore_n hX (fun vq12 => [(1, .int vq12), (0, .int x0), (2, .int vq2)]) d_M_factorial_12 (by decide) (fun _ => rfl) h11 (fun vq12 h13 => ?_)
    refine g_iinc hX (fun vq14 => [(2, .int vq14), (1, .int vq12), (0, .int x0)]) d_M_factorial_13 2 rfl rfl (by decide) (fun _ => rfl) h13 (fun vq14 h15 => ?_)
    refine g_goto hX 4 d_M_factorial_16 (by decide) ?_
    refine g_sub (lv2 := [(0, .int x0), (1, .int vq12), (2, .int vq14)]) [2, 1, 0] rfl ?_
    cases h15
    exact h4 (vq12, vq14) rfl
noncomputable def M_waysAt (x1 : Int32) (σ : Mem) : Option (Int32) := (rd σ 50 x1).bind (fun vq1 => ((if vq1 = 1 then some 2 else (rd σ 51 x1).bind (fun vq8 => (M_factorial vq8).bind (fun vq10 => some vq10)) : Option (Int32))).bind (fun vq14 => some vq14))
set_option maxHeartbeats 4000000 in
set_option maxRecDepth 100000 in
theorem c_M_waysAt (l : Launch) (Y : Wx) (x1 : Int32)  (σ : Mem) (o : Int32) (hf : M_waysAt x1 σ = some o) : Ct l Y 1 y_M_waysAt b_M_waysAt 2 (some .int) 1 [.ref (adr Y 43), .int x1] σ (some (.int o)) σ := by
  unfold M_waysAt at hf
  refine ct_of (by decide) (Nat.le_of_ble_eq_true rfl) rfl (fun X hXl hX hR => ?_)
  subst hXl
  have hX : Fx X Y 1 b_M_waysAt 2 R_M 1 := hX
  refine g_aload_n hX d_M_waysAt_0 0 rfl ?_
  refine g_getR hX iw_43 sh_43 rfl fl_M_32 d_M_waysAt_1 ?_
  refine g_iload_n hX d_M_waysAt_4 1 rfl ?_
  refine g_iaload hX iw_50 sh_50 d_M_waysAt_5 hf (fun vq1 h2 => ?_)
  refine g_iconst hX 1 d_M_waysAt_6 (by decide) ?_
  obtain ⟨vq14, h3, h4⟩ := obind h2
  have KJ4 : Gd X Y 1 σ [] 23 [.int vq14] := by
    cases h4
    exact g_ireturn hX hR d_M_waysAt_23
  refine g_icmp_ne hX 14 d_M_waysAt_7 (by decide) h3 (fun h6 => ?_) (fun h7 => ?_)
  · refine g_aload_n hX d_M_waysAt_14 0 rfl ?_
    refine g_getR hX iw_43 sh_43 rfl fl_M_35 d_M_waysAt_15 ?_
    refine g_iload_n hX d_M_waysAt_18 1 rfl ?_
    refine g_iaload hX iw_51 sh_51 d_M_waysAt_19 h6 (fun vq8 h9 => ?_)
    obtain ⟨vq10, h11, h12⟩ := obind h9
    refine g_callS hX [.int vq8] [] mv_M_180 (c_M_factorial X.2.1 Y vq8 σ _ h11) (by decide) rfl rfl (Nat.le_of_ble_eq_true rfl) d_M_waysAt_20 (fun h13 => ?_)
    show Gd X Y 1 σ [(0, .ref (adr Y 43)), (1, .int x1)] 23 [.int vq10]
    refine g_sub (lv2 := []) [] rfl ?_
    cases h12
    exact KJ4
  · refine g_iconst hX 2 d_M_waysAt_10 (by decide) ?_
    refine g_goto hX 23 d_M_waysAt_11 (by decide) ?_
    refine g_sub (lv2 := []) [] rfl ?_
    cases h7
    exact KJ4
noncomputable def M_orders_b1 (vq6 : Int32) (vq33 : Int32) (vq34 : Int32) : Option ((Int32 × Int32) ⊕ (Int32)) := lt (if (M_isIn vq6 vq34) = 0 then if vq33 ≤ 0 then false else true else true : Bool) (fun bq43 => if bq43 = true then lt (if (M_isIn vq6 vq34) = 0 then 1 else 0 : Int32) (fun vq58 => lt (vq33 - vq58) (fun vq59 => lt (vq34 + 1) (fun vq61 => some (.inl (vq59, vq61))))) else some (.inr vq34))
noncomputable def M_orders_b2 (x1 : Int32) (vq1 : Int32) (vq5 : Int32) (vq6 : Int32) (vq7 : Int32) (σ8 : Mem) : Option ((Int32 × Int32 × Int32 × Mem) ⊕ (Mem)) := if vq1 ≤ vq7 then some (.inr σ8) else (rd σ8 50 x1).bind (fun vq18 => ((if vq18 = 1 then lt (if vq5 = 0 then vq7 else ((vq1 - 1) - vq7) : Int32) (fun vq76 => (wr σ8 58 vq7 vq76).bind (fun σ77 => some (vq5, vq6, σ77))) else (M_factorial ((vq1 - 1) - vq7)).bind (fun vq25 => (dv vq5 vq25).bind (fun vq29 => (rm vq5 vq25).bind (fun vq31 => (lp (fun s => M_orders_b1 vq6 s.1 s.2) fuel (vq29, 0)).bind (fun vq35 => lt (vq6 ||| (1 <<< (vq35 &&& 31))) (fun vq64 => (wr σ8 58 vq7 vq35).bind (fun σ66 => some (vq31, vq64, σ66))))))) : Option (Int32 × Int32 × Mem))).bind (fun q => lt q.1 (fun vq68 => lt q.2.1 (fun vq69 => lt q.2.2 (fun σ70 => lt (vq7 + 1) (fun vq79 => some (.inl (vq68, vq69, vq79, σ70))))))))
noncomputable def M_orders (x1 : Int32) (σ : Mem) : Option (Mem) := (rd σ 51 x1).bind (fun vq1 => (rd σ 56 x1).bind (fun vq3 => (lp (fun s => M_orders_b2 x1 vq1 s.1 s.2.1 s.2.2.1 s.2.2.2) fuel (vq3, 0, 0, σ)).bind (fun σ9 => some σ9)))
set_option maxHeartbeats 4000000 in
set_option maxRecDepth 100000 in
theorem c_M_orders (l : Launch) (Y : Wx) (x1 : Int32)  (σ : Mem) (o : Mem) (hf : M_orders x1 σ = some o) : Ct l Y 1 y_M_orders b_M_orders 9 none 1 [.ref (adr Y 43), .int x1] σ none o := by
  unfold M_orders at hf
  refine ct_of (by decide) (Nat.le_of_ble_eq_true rfl) rfl (fun X hXl hX hR => ?_)
  subst hXl
  have hX : Fx X Y 1 b_M_orders 9 R_M 1 := hX
  refine g_aload_n hX d_M_orders_0 0 rfl ?_
  refine g_getR hX iw_43 sh_43 rfl fl_M_35 d_M_orders_1 ?_
  refine g_iload_n hX d_M_orders_4 1 rfl ?_
  refine g_iaload hX iw_51 sh_51 d_M_orders_5 hf (fun vq1 h2 => ?_)
  refine g_istore_nV hX [(2, .int vq1), (0, .ref (adr Y 43)), (1, .int x1)] d_M_orders_6 (by decide) rfl ?_
  refine g_aload_n hX d_M_orders_7 1 rfl ?_
  refine g_getR hX iw_43 sh_43 rfl fl_M_50 d_M_orders_8 ?_
  refine g_iload_n hX d_M_orders_11 2 rfl ?_
  refine g_iaload hX iw_56 sh_56 d_M_orders_12 h2 (fun vq3 h4 => ?_)
  refine g_istore_nV hX [(3, .int vq3), (2, .int vq1), (0, .ref (adr Y 43)), (1, .int x1)] d_M_orders_13 (by decide) rfl ?_
  refine g_iconst hX 0 d_M_orders_14 (by decide) ?_
  refine g_istoreV hX [(4, .int 0), (3, .int vq3), (2, .int vq1), (0, .ref (adr Y 43)), (1, .int x1)] d_M_orders_15 (by decide) rfl ?_
  refine g_iconst hX 0 d_M_orders_17 (by decide) ?_
  refine g_istoreV hX [(5, .int 0), (4, .int 0), (3, .int vq3), (2, .int vq1), (0, .ref (adr Y 43)), (1, .int x1)] d_M_orders_18 (by decide) rfl ?_
  obtain ⟨σ9, h13, h14⟩ := obind h4
  have KX14 : Gd X Y 1 σ9 [] 151 [] := by
    cases h14
    exact g_return hX hR d_M_orders_151
  refine g_sub (lv2 := [(0, .ref (adr Y 43)), (1, .int x1), (2, .int vq1), (3, .int vq3), (4, .int 0), (5, .int 0)]) [4, 5, 3, 2, 1, 0] rfl ?_
  refine g_loop (fun s => M_orders_b2 x1 vq1 s.1 s.2.1 s.2.2.1 s.2.2.2) (fun s => Gd X Y 1 s.2.2.2 [(0, .ref (adr Y 43)), (1, .int x1), (2, .int vq1), (3, .int s.1), (4, .int s.2.1), (5, .int s.2.2.1)] 20 []) σ9 ?_ fuel (vq3, 0, 0, σ) h13
  intro s y12 h12 h10 h11
  obtain ⟨vq5, vq6, vq7, σ8⟩ := s
  have h12 : M_orders_b2 x1 vq1 vq5 vq6 vq7 σ8 = some y12 := h12
  unfold M_orders_b2 at h12
  show Gd X Y 1 σ8 [(0, .ref (adr Y 43)), (1, .int x1), (2, .int vq1), (3, .int vq5), (4, .int vq6), (5, .int vq7)] 20 []
  refine g_iload hX d_M_orders_20 5 rfl ?_
  refine g_iload_n hX d_M_orders_22 2 rfl ?_
  refine g_icmp_ge hX 151 d_M_orders_23 (by decide) h12 (fun h16 => ?_) (fun h17 => ?_)
  · refine g_sub (lv2 := []) [] rfl ?_
    cases h16
    have h15 := h11 σ8 rfl
    cases h15
    exact KX14
  · refine g_aload_n hX d_M_orders_26 0 rfl ?_
    refine g_getR hX iw_43 sh_43 rfl fl_M_32 d_M_orders_27 ?_
    refine g_iload_n hX d_M_orders_30 1 rfl ?_
    refine g_iaload hX iw_50 sh_50 d_M_orders_31 h17 (fun vq18 h19 => ?_)
    refine g_iconst hX 1 d_M_orders_32 (by decide) ?_
    obtain ⟨⟨vq68, vq69, σ70⟩, h20, h21⟩ := obind h19
    have h21 := lt3 h21
    have KJ21 : Gd X Y 1 σ70 [(0, .ref (adr Y 43)), (1, .int x1), (2, .int vq1), (3, .int vq68), (4, .int vq69), (5, .int vq7)] 145 [] := by
      refine g_iinc hX (fun vq79 => [(5, .int vq79), (0, .ref (adr Y 43)), (1, .int x1), (2, .int vq1), (3, .int vq68), (4, .int vq69)]) d_M_orders_145 5 rfl rfl (by decide) (fun _ => rfl) h21 (fun vq79 h80 => ?_)
      refine g_goto hX 20 d_M_orders_148 (by decide) ?_
      refine g_sub (lv2 := [(0, .ref (adr Y 43)), (1, .int x1), (2, .int vq1), (3, .int vq68), (4, .int vq69), (5, .int vq79)]) [1, 2, 3, 4, 5, 0] rfl ?_
      cases h80
      exact h10 (vq68, vq69, vq79, σ70) rfl
    refine g_icmp_ne hX 61 d_M_orders_33 (by decide) h20 (fun h23 => ?_) (fun h24 => ?_)
    · refine g_iload_n hX d_M_orders_61 2 rfl ?_
      refine g_iconst hX 1 d_M_orders_62 (by decide) ?_
      refine g_isub hX d_M_orders_63 ?_
      refine g_iload hX d_M_orders_64 5 rfl ?_
      refine g_isub hX d_M_orders_66 ?_
      obtain ⟨vq25, h26, h27⟩ := obind h23
      refine g_callS hX [.int ((vq1 - 1) - vq7)] [] mv_M_180 (c_M_factorial X.2.1 Y ((vq1 - 1) - vq7) σ8 _ h26) (by decide) rfl rfl (Nat.le_of_ble_eq_true rfl) d_M_orders_67 (fun h28 => ?_)
      show Gd X Y 1 σ8 [(0, .ref (adr Y 43)), (1, .int x1), (2, .int vq1), (3, .int vq5), (4, .int vq6), (5, .int vq7)] 70 [.int vq25]
      refine g_istoreV hX [(6, .int vq25), (0, .ref (adr Y 43)), (1, .int x1), (2, .int vq1), (3, .int vq5), (4, .int vq6), (5, .int vq7)] d_M_orders_70 (by decide) rfl ?_
      refine g_iload_n hX d_M_orders_72 4 rfl ?_
      refine g_iload hX d_M_orders_73 0 rfl ?_
      refine g_idiv hX d_M_orders_75 h27 (fun vq29 h30 => ?_)
      refine g_istoreV hX [(7, .int vq29), (6, .int vq25), (0, .ref (adr Y 43)), (1, .int x1), (2, .int vq1), (3, .int vq5), (4, .int vq6), (5, .int vq7)] d_M_orders_76 (by decide) rfl ?_
      refine g_iload_n hX d_M_orders_78 5 rfl ?_
      refine g_iload hX d_M_orders_79 1 rfl ?_
      refine g_irem hX d_M_orders_81 h30 (fun vq31 h32 => ?_)
      refine g_istore_nV hX [(3, .int vq31), (7, .int vq29), (6, .int vq25), (0, .ref (adr Y 43)), (1, .int x1), (2, .int vq1), (4, .int vq6), (5, .int vq7)] d_M_orders_82 (by decide) rfl ?_
      refine g_iconst hX 0 d_M_orders_83 (by decide) ?_
      refine g_istoreV hX [(8, .int 0), (3, .int vq31), (7, .int vq29), (6, .int vq25), (0, .ref (adr Y 43)), (1, .int x1), (2, .int vq1), (4, .int vq6), (5, .int vq7)] d_M_orders_84 (by decide) rfl ?_
      obtain ⟨vq35, h39, h40⟩ := obind h32
      have KX40 : Gd X Y 1 σ8 [(0, .ref (adr Y 43)), (1, .int x1), (2, .int vq1), (3, .int vq31), (4, .int vq6), (5, .int vq7), (8, .int vq35)] 127 [] := by
        refine g_iload hX d_M_orders_127 4 rfl ?_
        refine g_iconst hX 1 d_M_orders_129 (by decide) ?_
        refine g_iload hX d_M_orders_130 6 rfl ?_
        refine g_ishl hX d_M_orders_132 ?_
        refine g_ior hX d_M_orders_133 ?_
        refine g_istore hX (fun vq64 => [(4, .int vq64), (0, .ref (adr Y 43)), (1, .int x1), (2, .int vq1), (3, .int vq31), (5, .int vq7), (8, .int vq35)]) d_M_orders_134 (by decide) (fun _ => rfl) h40 (fun vq64 h65 => ?_)
        refine g_aload_n hX d_M_orders_136 1 rfl ?_
        refine g_getR hX iw_43 sh_43 rfl fl_M_56 d_M_orders_137 ?_
        refine g_iload hX d_M_orders_140 5 rfl ?_
        refine g_iload hX d_M_orders_142 6 rfl ?_
        refine g_iastore hX iw_58 sh_58 d_M_orders_144 h65 (fun σ66 h67 => ?_)
        refine g_sub (lv2 := [(0, .ref (adr Y 43)), (1, .int x1), (2, .int vq1), (3, .int vq31), (4, .int vq64), (5, .int vq7)]) [1, 2, 3, 4, 0, 5] rfl ?_
        cases h67
        exact KJ21
      refine g_sub (lv2 := [(0, .ref (adr Y 43)), (1, .int x1), (2, .int vq1), (3, .int vq31), (4, .int vq6), (5, .int vq7), (7, .int vq29), (8, .int 0)]) [4, 5, 6, 1, 7, 8, 2, 0] rfl ?_
      refine g_loop (fun s => M_orders_b1 vq6 s.1 s.2) (fun s => Gd X Y 1 σ8 [(0, .ref (adr Y 43)), (1, .int x1), (2, .int vq1), (3, .int vq31), (4, .int vq6), (5, .int vq7), (7, .int s.1), (8, .int s.2)] 86 []) vq35 ?_ fuel (vq29, 0) h39
      intro s y38 h38 h36 h37
      obtain ⟨vq33, vq34⟩ := s
      have h38 : M_orders_b1 vq6 vq33 vq34 = some y38 := h38
      unfold M_orders_b1 at h38
      show Gd X Y 1 σ8 [(0, .ref (adr Y 43)), (1, .int x1), (2, .int vq1), (3, .int vq31), (4, .int vq6), (5, .int vq7), (7, .int vq33), (8, .int vq34)] 86 []
      refine g_iload hX d_M_orders_86 4 rfl ?_
      refine g_iload hX d_M_orders_88 7 rfl ?_
      refine g_callS hX [.int vq6, .int vq34] [] mv_M_81 (c_M_isIn X.2.1 Y vq6 vq34 σ8 _ rfl) (by decide) rfl rfl (Nat.le_of_ble_eq_true rfl) d_M_orders_90 (fun h42 => ?_)
      show Gd X Y 1 σ8 [(0, .ref (adr Y 43)), (1, .int x1), (2, .int vq1), (3, .int vq31), (4, .int vq6), (5, .int vq7), (7, .int vq33), (8, .int vq34)] 93 [.int (M_isIn vq6 vq34)]
      obtain ⟨bq43, h44, h45⟩ := ltex h38
      have Kbq43t : bq43 = true → Gd X Y 1 σ8 [(0, .ref (adr Y 43)), (1, .int x1), (2, .int vq1), (3, .int vq31), (4, .int vq6), (5, .int vq7), (7, .int vq33), (8, .int vq34)] 101 [] := by
        intro h63
        have h50 := (if_pos h63).symm.trans h45
        refine g_iload hX d_M_orders_101 6 rfl ?_
        refine g_iload hX d_M_orders_103 4 rfl ?_
        refine g_iload hX d_M_orders_105 7 rfl ?_
        refine g_callS hX [.int vq6, .int vq34] [.int vq33] mv_M_81 (c_M_isIn X.2.1 Y vq6 vq34 σ8 _ rfl) (by decide) rfl rfl (Nat.le_of_ble_eq_true rfl) d_M_orders_107 (fun h52 => ?_)
        show Gd X Y 1 σ8 [(0, .ref (adr Y 43)), (1, .int x1), (2, .int vq1), (3, .int vq31), (4, .int vq6), (5, .int vq7), (7, .int vq33), (8, .int vq34)] 110 [.int (M_isIn vq6 vq34), .int vq33]
        obtain ⟨vq58, h53, h54⟩ := ltex h50
        have KJ54 : okR (some .boolean) (some (.int vq58)) → Gd X Y 1 σ8 [(0, .ref (adr Y 43)), (1, .int x1), (2, .int vq1), (3, .int vq31), (4, .int vq6), (5, .int vq7), (8, .int vq34)] 118 [.int vq58, .int vq33] := by
          intro hbvq58
          refine g_isub hX d_M_orders_118 ?_
          refine g_istore hX (fun vq59 => [(7, .int vq59), (0, .ref (adr Y 43)), (1, .int x1), (2, .int vq1), (3, .int vq31), (4, .int vq6), (5, .int vq7), (8, .int vq34)]) d_M_orders_119 (by decide) (fun _ => rfl) h54 (fun vq59 h60 => ?_)
          refine g_iinc hX (fun vq61 => [(8, .int vq61), (7, .int vq59), (0, .ref (adr Y 43)), (1, .int x1), (2, .int vq1), (3, .int vq31), (4, .int vq6), (5, .int vq7)]) d_M_orders_121 7 rfl rfl (by decide) (fun _ => rfl) h60 (fun vq61 h62 => ?_)
          refine g_goto hX 86 d_M_orders_124 (by decide) ?_
          refine g_sub (lv2 := [(0, .ref (adr Y 43)), (1, .int x1), (2, .int vq1), (3, .int vq31), (4, .int vq6), (5, .int vq7), (7, .int vq59), (8, .int vq61)]) [2, 3, 4, 5, 6, 7, 1, 0] rfl ?_
          cases h62
          exact h36 (vq59, vq61) rfl
        refine g_if_eq hX 117 d_M_orders_110 (by decide) h53 (fun h56 => ?_) (fun h57 => ?_)
        · refine g_iconst hX 1 d_M_orders_117 (by decide) ?_
          refine g_sub (lv2 := [(0, .ref (adr Y 43)), (1, .int x1), (2, .int vq1), (3, .int vq31), (4, .int vq6), (5, .int vq7), (8, .int vq34)]) [0, 1, 2, 3, 4, 5, 7] rfl ?_
          cases h56
          exact KJ54 okB1
        · refine g_iconst hX 0 d_M_orders_113 (by decide) ?_
          refine g_goto hX 118 d_M_orders_114 (by decide) ?_
          refine g_sub (lv2 := [(0, .ref (adr Y 43)), (1, .int x1), (2, .int vq1), (3, .int vq31), (4, .int vq6), (5, .int vq7), (8, .int vq34)]) [0, 1, 2, 3, 4, 5, 7] rfl ?_
          cases h57
          exact KJ54 okB0
      have Kbq43f : ¬ bq43 = true → Gd X Y 1 σ8 [(0, .ref (adr Y 43)), (1, .int x1), (2, .int vq1), (3, .int vq31), (4, .int vq6), (5, .int vq7), (7, .int vq33), (8, .int vq34)] 127 [] := by
        intro h63
        have h51 := (if_neg h63).symm.trans h45
        refine g_sub (lv2 := [(0, .ref (adr Y 43)), (1, .int x1), (2, .int vq1), (3, .int vq31), (4, .int vq6), (5, .int vq7), (8, .int vq34)]) [0, 1, 2, 3, 4, 5, 7] rfl ?_
        cases h51
        have h41 := h37 vq34 rfl
        cases h41
        exact KX40
      refine g_if_ne hX 101 d_M_orders_93 (by decide) h44 (fun h46 => ?_) (fun h47 => ?_)
      · cases h46
        exact Kbq43t rfl
      · refine g_iload hX d_M_orders_96 6 rfl ?_
        refine g_if_le hX 127 d_M_orders_98 (by decide) h47 (fun h48 => ?_) (fun h49 => ?_)
        · cases h48
          exact Kbq43f (by decide)
        · cases h49
          exact Kbq43t rfl
    · refine g_aload_n hX d_M_orders_36 0 rfl ?_
      refine g_getR hX iw_43 sh_43 rfl fl_M_56 d_M_orders_37 ?_
      refine g_iload hX d_M_orders_40 5 rfl ?_
      refine g_iload_n hX d_M_orders_42 3 rfl ?_
      obtain ⟨vq76, h71, h72⟩ := ltex h24
      have KJ72 : Gd X Y 1 σ8 [(0, .ref (adr Y 43)), (1, .int x1), (2, .int vq1), (3, .int vq5), (4, .int vq6), (5, .int vq7)] 57 [.int vq76, .int vq7, .ref (adr Y 58)] := by
        refine g_iastore hX iw_58 sh_58 d_M_orders_57 h72 (fun σ77 h78 => ?_)
        refine g_goto hX 145 d_M_orders_58 (by decide) ?_
        refine g_sub (lv2 := [(0, .ref (adr Y 43)), (1, .int x1), (2, .int vq1), (3, .int vq5), (4, .int vq6), (5, .int vq7)]) [0, 1, 2, 3, 4, 5] rfl ?_
        cases h78
        exact KJ21
      refine g_if_ne hX 51 d_M_orders_43 (by decide) h71 (fun h74 => ?_) (fun h75 => ?_)
      · refine g_iload_n hX d_M_orders_51 2 rfl ?_
        refine g_iconst hX 1 d_M_orders_52 (by decide) ?_
        refine g_isub hX d_M_orders_53 ?_
        refine g_iload hX d_M_orders_54 5 rfl ?_
        refine g_isub hX d_M_orders_56 ?_
        refine g_sub (lv2 := [(0, .ref (adr Y 43)), (1, .int x1), (2, .int vq1), (3, .int vq5), (4, .int vq6), (5, .int vq7)]) [0, 1, 2, 3, 4, 5] rfl ?_
        cases h74
        exact KJ72
      · refine g_iload hX d_M_orders_46 5 rfl ?_
        refine g_goto hX 57 d_M_orders_48 (by decide) ?_
        refine g_sub (lv2 := [(0, .ref (adr Y 43)), (1, .int x1), (2, .int vq1), (3, .int vq5), (4, .int vq6), (5, .int vq7)]) [0, 1, 2, 3, 4, 5] rfl ?_
        cases h75
        exact KJ72
noncomputable def M_findsRow_b1  (vq3 : Int32) (vq4 : Int32) (σ5 : Mem) : Option ((Int32 × Int32 × Mem) ⊕ (Mem)) := if vq4 < 0 then some (.inr σ5) else (M_waysAt vq4 σ5).bind (fun vq15 => (rm vq3 vq15).bind (fun vq19 => (wr σ5 56 vq4 vq19).bind (fun σ21 => (M_waysAt vq4 σ21).bind (fun vq23 => (dv vq3 vq23).bind (fun vq27 => lt (vq4 + (-1)) (fun vq29 => some (.inl (vq27, vq29, σ21))))))))
noncomputable def M_findsRow_b2 (vq59 : Int32) (vq71 : Int32) (vq72 : Int32) (σ73 : Mem) : Option ((Int32 × Int32 × Mem) ⊕ (Int32 × Mem)) := if vq72 < 0 then some (.inr (vq71, σ73)) else (rd σ73 58 vq72).bind (fun vq84 => (rd σ73 52 ((8 * vq59) + vq84)).bind (fun vq86 => (wr σ73 55 vq71 vq86).bind (fun σ88 => lt (vq71 + 1) (fun vq90 => lt (vq72 + (-1)) (fun vq92 => some (.inl (vq90, vq92, σ88)))))))
noncomputable def M_findsRow_b3  (vq34 : Int32) (vq35 : Int32) (σ36 : Mem) : Option ((Int32 × Int32 × Mem) ⊕ (Mem)) := if vq34 ≤ 0 then some (.inr σ36) else lt (vq34 + (-1)) (fun vq46 => (rd σ36 55 vq46).bind (fun vq48 => (M_many vq48).bind (fun vq50 => ((if vq50 = 1 then (M_least vq48).bind (fun vq97 => (wr σ36 57 vq35 vq97).bind (fun σ101 => lt (vq35 + 1) (fun vq103 => some (vq46, vq103, σ101)))) else (M_nodeOf vq48 σ36).bind (fun vq59 => (M_orders vq59 σ36).bind (fun σ63 => (rd σ63 51 vq59).bind (fun vq67 => lt (vq67 - 1) (fun vq69 => (lp (fun s => M_findsRow_b2 vq59 s.1 s.2.1 s.2.2) fuel (vq46, vq69, σ63)).bind (fun q => lt q.1 (fun vq74 => lt q.2 (fun σ75 => some (vq74, vq35, σ75)))))))) : Option (Int32 × Int32 × Mem))).bind (fun q => lt q.1 (fun vq94 => lt q.2.1 (fun vq95 => lt q.2.2 (fun σ96 => some (.inl (vq94, vq95, σ96)))))))))
noncomputable def M_findsRow (x1 : Int32) (σ : Mem) : Option (Mem) := lt ((σ 43 7) - 1) (fun vq1 => (lp (fun s => M_findsRow_b1 s.1 s.2.1 s.2.2) fuel (x1, vq1, σ)).bind (fun σ6 => (wr σ6 55 0 (M_all σ6)).bind (fun σ32 => (lp (fun s => M_findsRow_b3 s.1 s.2.1 s.2.2) fuel (1, 0, σ32)).bind (fun σ37 => some σ37))))
set_option maxHeartbeats 4000000 in
set_option maxRecDepth 100000 in
theorem c_M_findsRow (l : Launch) (Y : Wx) (x1 : Int32)  (σ : Mem) (o : Mem) (hf : M_findsRow x1 σ = some o) : Ct l Y 1 y_M_findsRow b_M_findsRow 8 none 2 [.ref (adr Y 43), .int x1] σ none o := by
  unfold M_findsRow at hf
  refine ct_of (by decide) (Nat.le_of_ble_eq_true rfl) rfl (fun X hXl hX hR => ?_)
  subst hXl
  have hX : Fx X Y 1 b_M_findsRow 8 R_M 2 := hX
  refine g_iload_n hX d_M_findsRow_0 1 rfl ?_
  refine g_istore_nV hX [(2, .int x1), (0, .ref (adr Y 43)), (1, .int x1)] d_M_findsRow_1 (by decide) rfl ?_
  refine g_aload_n hX d_M_findsRow_2 1 rfl ?_
  refine g_getI hX iw_43 sh_43 rfl fl_M_156.f d_M_findsRow_3 ?_
  refine g_iconst hX 1 d_M_findsRow_6 (by decide) ?_
  refine g_isub hX d_M_findsRow_7 ?_
  refine g_istore_n hX (fun vq1 => [(3, .int vq1), (2, .int x1), (0, .ref (adr Y 43)), (1, .int x1)]) d_M_findsRow_8 (by decide) (fun _ => rfl) hf (fun vq1 h2 => ?_)
  obtain ⟨σ6, h10, h11⟩ := obind h2
  have KX11 : Gd X Y 1 σ6 [(0, .ref (adr Y 43))] 40 [] := by
    refine g_aload_n hX d_M_findsRow_40 0 rfl ?_
    refine g_getR hX iw_43 sh_43 rfl fl_M_47 d_M_findsRow_41 ?_
    refine g_iconst hX 0 d_M_findsRow_44 (by decide) ?_
    refine g_aload_n hX d_M_findsRow_45 0 rfl ?_
    refine g_callV hX [] [.int 0, .ref (adr Y 55)] mv_M_110 (c_M_all X.2.1 Y σ6 _ rfl) (by decide) iw_43 sh_43 rfl rfl rfl (Nat.le_of_ble_eq_true rfl) d_M_findsRow_46 (fun h31 => ?_)
    show Gd X Y 1 σ6 [(0, .ref (adr Y 43))] 49 [.int (M_all σ6), .int 0, .ref (adr Y 55)]
    refine g_iastore hX iw_55 sh_55 d_M_findsRow_49 h11 (fun σ32 h33 => ?_)
    refine g_iconst hX 1 d_M_findsRow_50 (by decide) ?_
    refine g_istore_nV hX [(3, .int 1), (0, .ref (adr Y 43))] d_M_findsRow_51 (by decide) rfl ?_
    refine g_iconst hX 0 d_M_findsRow_52 (by decide) ?_
    refine g_istoreV hX [(4, .int 0), (3, .int 1), (0, .ref (adr Y 43))] d_M_findsRow_53 (by decide) rfl ?_
    obtain ⟨σ37, h41, h42⟩ := obind h33
    have KX42 : Gd X Y 1 σ37 [] 163 [] := by
      cases h42
      exact g_return hX hR d_M_findsRow_163
    refine g_sub (lv2 := [(0, .ref (adr Y 43)), (3, .int 1), (4, .int 0)]) [2, 1, 0] rfl ?_
    refine g_loop (fun s => M_findsRow_b3 s.1 s.2.1 s.2.2) (fun s => Gd X Y 1 s.2.2 [(0, .ref (adr Y 43)), (3, .int s.1), (4, .int s.2.1)] 55 []) σ37 ?_ fuel (1, 0, σ32) h41
    intro s y40 h40 h38 h39
    obtain ⟨vq34, vq35, σ36⟩ := s
    have h40 : M_findsRow_b3 vq34 vq35 σ36 = some y40 := h40
    unfold M_findsRow_b3 at h40
    show Gd X Y 1 σ36 [(0, .ref (adr Y 43)), (3, .int vq34), (4, .int vq35)] 55 []
    refine g_iload_n hX d_M_findsRow_55 1 rfl ?_
    refine g_if_le hX 163 d_M_findsRow_56 (by decide) h40 (fun h44 => ?_) (fun h45 => ?_)
    · refine g_sub (lv2 := []) [] rfl ?_
      cases h44
      have h43 := h39 σ36 rfl
      cases h43
      exact KX42
    · refine g_iinc hX (fun vq46 => [(3, .int vq46), (0, .ref (adr Y 43)), (4, .int vq35)]) d_M_findsRow_59 1 rfl rfl (by decide) (fun _ => rfl) h45 (fun vq46 h47 => ?_)
      refine g_aload_n hX d_M_findsRow_62 1 rfl ?_
      refine g_getR hX iw_43 sh_43 rfl fl_M_47 d_M_findsRow_63 ?_
      refine g_iload_n hX d_M_findsRow_66 0 rfl ?_
      refine g_iaload hX iw_55 sh_55 d_M_findsRow_67 h47 (fun vq48 h49 => ?_)
      refine g_istoreV hX [(5, .int vq48), (3, .int vq46), (0, .ref (adr Y 43)), (4, .int vq35)] d_M_findsRow_68 (by decide) rfl ?_
      refine g_iload hX d_M_findsRow_70 0 rfl ?_
      obtain ⟨vq50, h51, h52⟩ := obind h49
      refine g_callS hX [.int vq48] [] mv_M_89 (c_M_many X.2.1 Y vq48 σ36 _ h51) (by decide) rfl rfl (Nat.le_of_ble_eq_true rfl) d_M_findsRow_72 (fun h53 => ?_)
      show Gd X Y 1 σ36 [(5, .int vq48), (3, .int vq46), (0, .ref (adr Y 43)), (4, .int vq35)] 75 [.int vq50]
      refine g_iconst hX 1 d_M_findsRow_75 (by decide) ?_
      obtain ⟨⟨vq94, vq95, σ96⟩, h54, h55⟩ := obind h52
      have h55 := lt3 h55
      have KJ55 : Gd X Y 1 σ96 [(0, .ref (adr Y 43)), (3, .int vq94), (4, .int vq95)] 160 [] := by
        refine g_goto hX 55 d_M_findsRow_160 (by decide) ?_
        refine g_sub (lv2 := [(0, .ref (adr Y 43)), (3, .int vq94), (4, .int vq95)]) [0, 1, 2] rfl ?_
        cases h55
        exact h38 (vq94, vq95, σ96) rfl
      refine g_icmp_ne hX 97 d_M_findsRow_76 (by decide) h54 (fun h57 => ?_) (fun h58 => ?_)
      · refine g_aload_n hX d_M_findsRow_97 2 rfl ?_
        refine g_iload hX d_M_findsRow_98 0 rfl ?_
        obtain ⟨vq59, h60, h61⟩ := obind h57
        refine g_callV hX [.int vq48] [] mv_M_186 (c_M_nodeOf X.2.1 Y vq48 σ36 _ h60) (by decide) iw_43 sh_43 rfl rfl rfl (Nat.le_of_ble_eq_true rfl) d_M_findsRow_100 (fun h62 => ?_)
        show Gd X Y 1 σ36 [(5, .int vq48), (3, .int vq46), (0, .ref (adr Y 43)), (4, .int vq35)] 103 [.int vq59]
        refine g_istoreV hX [(6, .int vq59), (5, .int vq48), (3, .int vq46), (0, .ref (adr Y 43)), (4, .int vq35)] d_M_findsRow_103 (by decide) rfl ?_
        refine g_aload_n hX d_M_findsRow_105 3 rfl ?_
        refine g_iload hX d_M_findsRow_106 0 rfl ?_
        obtain ⟨σ63, h64, h65⟩ := obind h61
        refine g_callV hX [.int vq59] [] mv_M_189 (c_M_orders X.2.1 Y vq59 σ36 _ h64) (by decide) iw_43 sh_43 rfl rfl rfl (Nat.le_of_ble_eq_true rfl) d_M_findsRow_108 (fun h66 => ?_)
        show Gd X Y 1 σ63 [(6, .int vq59), (5, .int vq48), (3, .int vq46), (0, .ref (adr Y 43)), (4, .int vq35)] 111 []
        refine g_aload_n hX d_M_findsRow_111 3 rfl ?_
        refine g_getR hX iw_43 sh_43 rfl fl_M_35 d_M_findsRow_112 ?_
        refine g_iload hX d_M_findsRow_115 0 rfl ?_
        refine g_iaload hX iw_51 sh_51 d_M_findsRow_117 h65 (fun vq67 h68 => ?_)
        refine g_iconst hX 1 d_M_findsRow_118 (by decide) ?_
        refine g_isub hX d_M_findsRow_119 ?_
        refine g_istore hX (fun vq69 => [(7, .int vq69), (6, .int vq59), (5, .int vq48), (3, .int vq46), (0, .ref (adr Y 43)), (4, .int vq35)]) d_M_findsRow_120 (by decide) (fun _ => rfl) h68 (fun vq69 h70 => ?_)
        obtain ⟨⟨vq74, σ75⟩, h79, h80⟩ := obind h70
        have h80 := lt2 h80
        have KX80 : Gd X Y 1 σ75 [(0, .ref (adr Y 43)), (3, .int vq74), (4, .int vq35)] 160 [] := by
          refine g_sub (lv2 := [(0, .ref (adr Y 43)), (3, .int vq74), (4, .int vq35)]) [0, 1, 2] rfl ?_
          cases h80
          exact KJ55
        refine g_sub (lv2 := [(0, .ref (adr Y 43)), (3, .int vq46), (4, .int vq35), (6, .int vq59), (7, .int vq69)]) [4, 3, 5, 1, 0] rfl ?_
        refine g_loop (fun s => M_findsRow_b2 vq59 s.1 s.2.1 s.2.2) (fun s => Gd X Y 1 s.2.2 [(0, .ref (adr Y 43)), (3, .int s.1), (4, .int vq35), (6, .int vq59), (7, .int s.2.1)] 122 []) (vq74, σ75) ?_ fuel (vq46, vq69, σ63) h79
        intro s y78 h78 h76 h77
        obtain ⟨vq71, vq72, σ73⟩ := s
        have h78 : M_findsRow_b2 vq59 vq71 vq72 σ73 = some y78 := h78
        unfold M_findsRow_b2 at h78
        show Gd X Y 1 σ73 [(0, .ref (adr Y 43)), (3, .int vq71), (4, .int vq35), (6, .int vq59), (7, .int vq72)] 122 []
        refine g_iload hX d_M_findsRow_122 4 rfl ?_
        refine g_if_lt hX 160 d_M_findsRow_124 (by decide) h78 (fun h82 => ?_) (fun h83 => ?_)
        · refine g_sub (lv2 := [(0, .ref (adr Y 43)), (3, .int vq71), (4, .int vq35)]) [0, 1, 2] rfl ?_
          cases h82
          have h81 := h77 (vq71, σ73) rfl
          cases h81
          exact KX80
        · refine g_aload_n hX d_M_findsRow_127 0 rfl ?_
          refine g_getR hX iw_43 sh_43 rfl fl_M_47 d_M_findsRow_128 ?_
          refine g_iload_n hX d_M_findsRow_131 1 rfl ?_
          refine g_aload_n hX d_M_findsRow_132 0 rfl ?_
          refine g_getR hX iw_43 sh_43 rfl fl_M_38 d_M_findsRow_133 ?_
          refine g_bipush hX 8 d_M_findsRow_136 (by decide) ?_
          refine g_iload hX d_M_findsRow_138 3 rfl ?_
          refine g_imul hX d_M_findsRow_140 ?_
          refine g_aload_n hX d_M_findsRow_141 0 rfl ?_
          refine g_getR hX iw_43 sh_43 rfl fl_M_56 d_M_findsRow_142 ?_
          refine g_iload hX d_M_findsRow_145 4 rfl ?_
          refine g_iaload hX iw_58 sh_58 d_M_findsRow_147 h83 (fun vq84 h85 => ?_)
          refine g_iadd hX d_M_findsRow_148 ?_
          refine g_iaload hX iw_52 sh_52 d_M_findsRow_149 h85 (fun vq86 h87 => ?_)
          refine g_iastore hX iw_55 sh_55 d_M_findsRow_150 h87 (fun σ88 h89 => ?_)
          refine g_iinc hX (fun vq90 => [(3, .int vq90), (0, .ref (adr Y 43)), (4, .int vq35), (6, .int vq59), (7, .int vq72)]) d_M_findsRow_151 1 rfl rfl (by decide) (fun _ => rfl) h89 (fun vq90 h91 => ?_)
          refine g_iinc hX (fun vq92 => [(7, .int vq92), (3, .int vq90), (0, .ref (adr Y 43)), (4, .int vq35), (6, .int vq59)]) d_M_findsRow_154 4 rfl rfl (by decide) (fun _ => rfl) h91 (fun vq92 h93 => ?_)
          refine g_goto hX 122 d_M_findsRow_157 (by decide) ?_
          refine g_sub (lv2 := [(0, .ref (adr Y 43)), (3, .int vq90), (4, .int vq35), (6, .int vq59), (7, .int vq92)]) [2, 1, 3, 4, 0] rfl ?_
          cases h93
          exact h76 (vq90, vq92, σ88) rfl
      · refine g_aload_n hX d_M_findsRow_79 2 rfl ?_
        refine g_getR hX iw_43 sh_43 rfl fl_M_53 d_M_findsRow_80 ?_
        refine g_iload hX d_M_findsRow_83 3 rfl ?_
        refine g_iload hX d_M_findsRow_85 0 rfl ?_
        obtain ⟨vq97, h98, h99⟩ := obind h58
        refine g_callS hX [.int vq48] [.int vq35, .ref (adr Y 57)] mv_M_142 (c_M_least X.2.1 Y vq48 σ36 _ h98) (by decide) rfl rfl (Nat.le_of_ble_eq_true rfl) d_M_findsRow_87 (fun h100 => ?_)
        show Gd X Y 1 σ36 [(5, .int vq48), (3, .int vq46), (0, .ref (adr Y 43)), (4, .int vq35)] 90 [.int vq97, .int vq35, .ref (adr Y 57)]
        refine g_iastore hX iw_57 sh_57 d_M_findsRow_90 h99 (fun σ101 h102 => ?_)
        refine g_iinc hX (fun vq103 => [(4, .int vq103), (5, .int vq48), (3, .int vq46), (0, .ref (adr Y 43))]) d_M_findsRow_91 3 rfl rfl (by decide) (fun _ => rfl) h102 (fun vq103 h104 => ?_)
        refine g_goto hX 160 d_M_findsRow_94 (by decide) ?_
        refine g_sub (lv2 := [(0, .ref (adr Y 43)), (3, .int vq46), (4, .int vq103)]) [3, 2, 0] rfl ?_
        cases h104
        exact KJ55
  refine g_sub (lv2 := [(0, .ref (adr Y 43)), (2, .int x1), (3, .int vq1)]) [2, 1, 0] rfl ?_
  refine g_loop (fun s => M_findsRow_b1 s.1 s.2.1 s.2.2) (fun s => Gd X Y 1 s.2.2 [(0, .ref (adr Y 43)), (2, .int s.1), (3, .int s.2.1)] 9 []) σ6 ?_ fuel (x1, vq1, σ) h10
  intro s y9 h9 h7 h8
  obtain ⟨vq3, vq4, σ5⟩ := s
  have h9 : M_findsRow_b1 vq3 vq4 σ5 = some y9 := h9
  unfold M_findsRow_b1 at h9
  show Gd X Y 1 σ5 [(0, .ref (adr Y 43)), (2, .int vq3), (3, .int vq4)] 9 []
  refine g_iload_n hX d_M_findsRow_9 2 rfl ?_
  refine g_if_lt hX 40 d_M_findsRow_10 (by decide) h9 (fun h13 => ?_) (fun h14 => ?_)
  · refine g_sub (lv2 := [(0, .ref (adr Y 43))]) [0] rfl ?_
    cases h13
    have h12 := h8 σ5 rfl
    cases h12
    exact KX11
  · refine g_aload_n hX d_M_findsRow_13 0 rfl ?_
    refine g_getR hX iw_43 sh_43 rfl fl_M_50 d_M_findsRow_14 ?_
    refine g_iload_n hX d_M_findsRow_17 2 rfl ?_
    refine g_iload_n hX d_M_findsRow_18 1 rfl ?_
    refine g_aload_n hX d_M_findsRow_19 0 rfl ?_
    refine g_iload_n hX d_M_findsRow_20 2 rfl ?_
    obtain ⟨vq15, h16, h17⟩ := obind h14
    refine g_callV hX [.int vq4] [.int vq3, .int vq4, .ref (adr Y 56)] mv_M_183 (c_M_waysAt X.2.1 Y vq4 σ5 _ h16) (by decide) iw_43 sh_43 rfl rfl rfl (Nat.le_of_ble_eq_true rfl) d_M_findsRow_21 (fun h18 => ?_)
    show Gd X Y 1 σ5 [(0, .ref (adr Y 43)), (2, .int vq3), (3, .int vq4)] 24 [.int vq15, .int vq3, .int vq4, .ref (adr Y 56)]
    refine g_irem hX d_M_findsRow_24 h17 (fun vq19 h20 => ?_)
    refine g_iastore hX iw_56 sh_56 d_M_findsRow_25 h20 (fun σ21 h22 => ?_)
    refine g_iload_n hX d_M_findsRow_26 1 rfl ?_
    refine g_aload_n hX d_M_findsRow_27 0 rfl ?_
    refine g_iload_n hX d_M_findsRow_28 2 rfl ?_
    obtain ⟨vq23, h24, h25⟩ := obind h22
    refine g_callV hX [.int vq4] [.int vq3] mv_M_183 (c_M_waysAt X.2.1 Y vq4 σ21 _ h24) (by decide) iw_43 sh_43 rfl rfl rfl (Nat.le_of_ble_eq_true rfl) d_M_findsRow_29 (fun h26 => ?_)
    show Gd X Y 1 σ21 [(0, .ref (adr Y 43)), (2, .int vq3), (3, .int vq4)] 32 [.int vq23, .int vq3]
    refine g_idiv hX d_M_findsRow_32 h25 (fun vq27 h28 => ?_)
    refine g_istore_nV hX [(2, .int vq27), (0, .ref (adr Y 43)), (3, .int vq4)] d_M_findsRow_33 (by decide) rfl ?_
    refine g_iinc hX (fun vq29 => [(3, .int vq29), (2, .int vq27), (0, .ref (adr Y 43))]) d_M_findsRow_34 2 rfl rfl (by decide) (fun _ => rfl) h28 (fun vq29 h30 => ?_)
    refine g_goto hX 9 d_M_findsRow_37 (by decide) ?_
    refine g_sub (lv2 := [(0, .ref (adr Y 43)), (2, .int vq27), (3, .int vq29)]) [2, 1, 0] rfl ?_
    cases h30
    exact h7 (vq27, vq29, σ21) rfl
