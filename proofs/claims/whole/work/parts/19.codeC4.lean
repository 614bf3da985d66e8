noncomputable def T_nthBit_b1 (x0 : Int32) (x1 : Int32) (vq1 : Int32) (vq2 : Int32) : Option ((Int32 × Int32) ⊕ ((Unit) ⊕ (Int32))) := if 8 ≤ vq2 then some (.inr (.inl ())) else ((if ((x0 >>> (vq2 &&& 31)) &&& 1) = 0 then some (.inl vq1) else if vq1 = x1 then some (.inr (.inr (.inr vq2))) else lt (vq1 + 1) (fun vq19 => some (.inl vq19)) : Option ((Int32) ⊕ ((Int32 × Int32) ⊕ ((Unit) ⊕ (Int32)))))).bind (fun x => Sum.elim (fun vq16 => lt (vq2 + 1) (fun vq21 => some (.inl (vq16, vq21)))) (fun z => some z) x)
noncomputable def T_nthBit (x0 : Int32) (x1 : Int32) : Option (Int32) := (lp (fun s => T_nthBit_b1 x0 x1 s.1 s.2) fuel (0, 0)).bind (fun x => Sum.elim (fun _u => some 0) (fun z => some z) x)
set_option maxHeartbeats 4000000 in
set_option maxRecDepth 100000 in
theorem c_T_nthBit (l : Launch) (Y : Wx) (x0 : Int32) (x1 : Int32)  (σ : Mem) (o : Int32) (hf : T_nthBit x0 x1 = some o) : Ct l Y 0 y_T_nthBit b_T_nthBit 4 (some .int) 0 [.int x0, .int x1] σ (some (.int o)) σ := by
  unfold T_nthBit at hf
  refine ct_of (by decide) (Nat.le_of_ble_eq_true rfl) rfl (fun X hXl hX hR => ?_)
  subst hXl
  have hX : Fx X Y 0 b_T_nthBit 4 R_T 0 := hX
  refine g_iconst hX 0 d_T_nthBit_0 (by decide) ?_
  refine g_istore_nV hX [(2, .int 0), (0, .int x0), (1, .int x1)] d_T_nthBit_1 (by decide) rfl ?_
  refine g_iconst hX 0 d_T_nthBit_2 (by decide) ?_
  refine g_istore_nV hX [(3, .int 0), (2, .int 0), (0, .int x0), (1, .int x1)] d_T_nthBit_3 (by decide) rfl ?_
  obtain ⟨h6x, h6, h7⟩ := obind hf
  have KX7 : h6x = .inl () → Gd X Y 0 σ [] 34 [] := by
    intro h8
    subst h8
    dsimp only [Sum.elim_inl] at h7
    refine g_iconst hX 0 d_T_nthBit_34 (by decide) ?_
    cases h7
    exact g_ireturn hX hR d_T_nthBit_35
  refine g_sub (lv2 := [(0, .int x0), (1, .int x1), (2, .int 0), (3, .int 0)]) [2, 3, 1, 0] rfl ?_
  refine g_loop (fun s => T_nthBit_b1 x0 x1 s.1 s.2) (fun s => Gd X Y 0 σ [(0, .int x0), (1, .int x1), (2, .int s.1), (3, .int s.2)] 4 []) h6x ?_ fuel (0, 0) h6
  intro s y5 h5 h3 h4
  obtain ⟨vq1, vq2⟩ := s
  have h5 : T_nthBit_b1 x0 x1 vq1 vq2 = some y5 := h5
  unfold T_nthBit_b1 at h5
  show Gd X Y 0 σ [(0, .int x0), (1, .int x1), (2, .int vq1), (3, .int vq2)] 4 []
  refine g_iload_n hX d_T_nthBit_4 3 rfl ?_
  refine g_bipush hX 8 d_T_nthBit_5 (by decide) ?_
  refine g_icmp_ge hX 34 d_T_nthBit_7 (by decide) h5 (fun h9 => ?_) (fun h10 => ?_)
  · refine g_sub (lv2 := []) [] rfl ?_
    cases h9
    exact KX7  (h4 (.inl ()) rfl).symm
  · refine g_iload_n hX d_T_nthBit_10 0 rfl ?_
    refine g_iload_n hX d_T_nthBit_11 3 rfl ?_
    refine g_ishr hX d_T_nthBit_12 ?_
    refine g_iconst hX 1 d_T_nthBit_13 (by decide) ?_
    refine g_iand hX d_T_nthBit_14 ?_
    obtain ⟨h13x, h11, h12⟩ := obind h10
    have KJ12 : ∀ (vq16 : Int32) , h13x = .inl vq16 → Gd X Y 0 σ [(0, .int x0), (1, .int x1), (2, .int vq16), (3, .int vq2)] 28 [] := by
      intro vq16 h13
      subst h13
      dsimp only [Sum.elim_inl] at h12
      refine g_iinc hX (fun vq21 => [(3, .int vq21), (0, .int x0), (1, .int x1), (2, .int vq16)]) d_T_nthBit_28 3 rfl rfl (by decide) (fun _ => rfl) h12 (fun vq21 h22 => ?_)
      refine g_goto hX 4 d_T_nthBit_31 (by decide) ?_
      refine g_sub (lv2 := [(0, .int x0), (1, .int x1), (2, .int vq16), (3, .int vq21)]) [1, 2, 3, 0] rfl ?_
      cases h22
      exact h3 (vq16, vq21) rfl
    refine g_if_eq hX 28 d_T_nthBit_15 (by decide) h11 (fun h14 => ?_) (fun h15 => ?_)
    · refine g_sub (lv2 := [(0, .int x0), (1, .int x1), (2, .int vq1), (3, .int vq2)]) [0, 1, 2, 3] rfl ?_
      cases h14
      exact KJ12 _ rfl
    · refine g_iload_n hX d_T_nthBit_18 2 rfl ?_
      refine g_iload_n hX d_T_nthBit_19 1 rfl ?_
      refine g_icmp_ne hX 25 d_T_nthBit_20 (by decide) h15 (fun h17 => ?_) (fun h18 => ?_)
      · refine g_iinc hX (fun vq19 => [(2, .int vq19), (0, .int x0), (1, .int x1), (3, .int vq2)]) d_T_nthBit_25 2 rfl rfl (by decide) (fun _ => rfl) h17 (fun vq19 h20 => ?_)
        refine g_sub (lv2 := [(0, .int x0), (1, .int x1), (2, .int vq19), (3, .int vq2)]) [1, 2, 0, 3] rfl ?_
        cases h20
        exact KJ12 _ rfl
      · refine g_iload_n hX d_T_nthBit_23 3 rfl ?_
        cases h18
        dsimp only [Sum.elim_inr] at h12
        cases h12
        have h8 := h4 (.inr vq2) rfl
        subst h8
        dsimp only [Sum.elim_inr] at h7
        cases h7
        exact g_ireturn hX hR d_T_nthBit_24
noncomputable def T_layParts_b1 (t : Nat) (x1 : Int32) (x2 : Int32) (vq1 : Int32) (vq7 : Int32) (vq8 : Int32) (vq9 : Int32) (vq10 : Int32) (σ11 : Mem) : Option ((Int32 × Int32 × Int32 × Int32 × Mem) ⊕ (Mem)) := if vq1 ≤ vq10 then some (.inr σ11) else lt (if x2 = 0 then vq10 else ((vq1 - 1) - vq10) : Int32) (fun vq26 => (rd σ11 (t + 1) x1).bind (fun vq27 => ((if vq27 = 0 then (O_factorial ((vq1 - 1) - vq10) σ11).bind (fun vq37 => lt (if vq37 < 1 then 1 else vq37) (fun vq41 => (dv vq9 vq41).bind (fun vq43 => (T_nthBit vq8 vq43).bind (fun vq45 => (rm vq9 vq41).bind (fun vq49 => lt (vq8 &&& ((1 <<< (vq45 &&& 31)) ^^^ (-1))) (fun vq51 => some (vq51, vq49, vq45))))))) else some (vq8, vq9, vq26) : Option (Int32 × Int32 × Int32))).bind (fun q => lt q.1 (fun vq34 => lt q.2.1 (fun vq35 => lt q.2.2 (fun vq36 => (T_part t x1 vq36 σ11).bind (fun vq53 => (wr σ11 (t + 8) vq53 vq7).bind (fun σ57 => (rd σ57 (t + 2) vq53).bind (fun vq59 => lt (vq7 + (J_bitCount vq59)) (fun vq62 => lt (vq10 + 1) (fun vq64 => some (.inl (vq62, vq34, vq35, vq64, σ57)))))))))))))
noncomputable def T_layParts (t : Nat) (x1 : Int32) (x2 : Int32) (σ : Mem) : Option (Mem) := (rd σ (t + 3) x1).bind (fun vq1 => (rd σ (t + 8) x1).bind (fun vq3 => lt ((1 <<< (vq1 &&& 31)) - 1) (fun vq5 => (lp (fun s => T_layParts_b1 t x1 x2 vq1 s.1 s.2.1 s.2.2.1 s.2.2.2.1 s.2.2.2.2) fuel (vq3, vq5, x2, 0, σ)).bind (fun σ12 => some σ12))))
set_option maxHeartbeats 4000000 in
set_option maxRecDepth 100000 in
theorem c_T_layParts (l : Launch) (Y : Wx) (t : Nat) (x1 : Int32) (x2 : Int32) (ht : isT t) (σ : Mem) (o : Mem) (hf : T_layParts t x1 x2 σ = some o) : Ct l Y 0 y_T_layParts b_T_layParts 10 none 1 [.ref (adr Y t), .int x1, .int x2] σ none o := by
  unfold T_layParts at hf
  refine ct_of (by decide) (Nat.le_of_ble_eq_true rfl) rfl (fun X hXl hX hR => ?_)
  subst hXl
  have hX : Fx X Y 0 b_T_layParts 10 R_T 1 := hX
  refine g_aload_n hX d_T_layParts_0 0 rfl ?_
  refine g_getR hX (iwT ht) (shTt ht) rfl fl_T_18 d_T_layParts_1 ?_
  refine g_iload_n hX d_T_layParts_4 1 rfl ?_
  refine g_iaload hX (iwA3 ht) (shA3 ht) d_T_layParts_5 hf (fun vq1 h2 => ?_)
  refine g_istore_nV hX [(3, .int vq1), (0, .ref (adr Y t)), (1, .int x1), (2, .int x2)] d_T_layParts_6 (by decide) rfl ?_
  refine g_aload_n hX d_T_layParts_7 1 rfl ?_
  refine g_getR hX (iwT ht) (shTt ht) rfl fl_T_49 d_T_layParts_8 ?_
  refine g_iload_n hX d_T_layParts_11 2 rfl ?_
  refine g_iaload hX (iwA8 ht) (shA8 ht) d_T_layParts_12 h2 (fun vq3 h4 => ?_)
  refine g_istoreV hX [(4, .int vq3), (3, .int vq1), (0, .ref (adr Y t)), (1, .int x1), (2, .int x2)] d_T_layParts_13 (by decide) rfl ?_
  refine g_iconst hX 1 d_T_layParts_15 (by decide) ?_
  refine g_iload_n hX d_T_layParts_16 1 rfl ?_
  refine g_ishl hX d_T_layParts_17 ?_
  refine g_iconst hX 1 d_T_layParts_18 (by decide) ?_
  refine g_isub hX d_T_layParts_19 ?_
  refine g_istore hX (fun vq5 => [(5, .int vq5), (4, .int vq3), (3, .int vq1), (0, .ref (adr Y t)), (1, .int x1), (2, .int x2)]) d_T_layParts_20 (by decide) (fun _ => rfl) h4 (fun vq5 h6 => ?_)
  refine g_iload_n hX d_T_layParts_22 5 rfl ?_
  refine g_istoreV hX [(6, .int x2), (5, .int vq5), (4, .int vq3), (3, .int vq1), (0, .ref (adr Y t)), (1, .int x1), (2, .int x2)] d_T_layParts_23 (by decide) rfl ?_
  refine g_iconst hX 0 d_T_layParts_25 (by decide) ?_
  refine g_istoreV hX [(7, .int 0), (6, .int x2), (5, .int vq5), (4, .int vq3), (3, .int vq1), (0, .ref (adr Y t)), (1, .int x1), (2, .int x2)] d_T_layParts_26 (by decide) rfl ?_
  obtain ⟨σ12, h16, h17⟩ := obind h6
  have KX17 : Gd X Y 0 σ12 [] 144 [] := by
    cases h17
    exact g_return hX hR d_T_layParts_144
  refine g_sub (lv2 := [(0, .ref (adr Y t)), (1, .int x1), (2, .int x2), (3, .int vq1), (4, .int vq3), (5, .int vq5), (6, .int x2), (7, .int 0)]) [5, 6, 7, 4, 3, 2, 1, 0] rfl ?_
  refine g_loop (fun s => T_layParts_b1 t x1 x2 vq1 s.1 s.2.1 s.2.2.1 s.2.2.2.1 s.2.2.2.2) (fun s => Gd X Y 0 s.2.2.2.2 [(0, .ref (adr Y t)), (1, .int x1), (2, .int x2), (3, .int vq1), (4, .int s.1), (5, .int s.2.1), (6, .int s.2.2.1), (7, .int s.2.2.2.1)] 28 []) σ12 ?_ fuel (vq3, vq5, x2, 0, σ) h16
  intro s y15 h15 h13 h14
  obtain ⟨vq7, vq8, vq9, vq10, σ11⟩ := s
  have h15 : T_layParts_b1 t x1 x2 vq1 vq7 vq8 vq9 vq10 σ11 = some y15 := h15
  unfold T_layParts_b1 at h15
  show Gd X Y 0 σ11 [(0, .ref (adr Y t)), (1, .int x1), (2, .int x2), (3, .int vq1), (4, .int vq7), (5, .int vq8), (6, .int vq9), (7, .int vq10)] 28 []
  refine g_iload hX d_T_layParts_28 7 rfl ?_
  refine g_iload_n hX d_T_layParts_30 3 rfl ?_
  refine g_icmp_ge hX 144 d_T_layParts_31 (by decide) h15 (fun h19 => ?_) (fun h20 => ?_)
  · refine g_sub (lv2 := []) [] rfl ?_
    cases h19
    have h18 := h14 σ11 rfl
    cases h18
    exact KX17
  · refine g_iload_n hX d_T_layParts_34 2 rfl ?_
    obtain ⟨vq26, h21, h22⟩ := ltex h20
    have KJ22 : Gd X Y 0 σ11 [(0, .ref (adr Y t)), (1, .int x1), (2, .int x2), (3, .int vq1), (4, .int vq7), (5, .int vq8), (6, .int vq9), (7, .int vq10)] 49 [.int vq26] := by
      refine g_istoreV hX [(8, .int vq26), (0, .ref (adr Y t)), (1, .int x1), (2, .int x2), (3, .int vq1), (4, .int vq7), (5, .int vq8), (6, .int vq9), (7, .int vq10)] d_T_layParts_49 (by decide) rfl ?_
      refine g_aload_n hX d_T_layParts_51 1 rfl ?_
      refine g_getR hX (iwT ht) (shTt ht) rfl fl_T_11 d_T_layParts_52 ?_
      refine g_iload_n hX d_T_layParts_55 2 rfl ?_
      refine g_iaload hX (iwA1 ht) (shA1 ht) d_T_layParts_56 h22 (fun vq27 h28 => ?_)
      obtain ⟨⟨vq34, vq35, vq36⟩, h29, h30⟩ := obind h28
      have h30 := lt3 h30
      have KJ30 : Gd X Y 0 σ11 [(0, .ref (adr Y t)), (1, .int x1), (2, .int x2), (3, .int vq1), (4, .int vq7), (5, .int vq34), (6, .int vq35), (7, .int vq10), (8, .int vq36)] 105 [] := by
        refine g_aload_n hX d_T_layParts_105 0 rfl ?_
        refine g_iload_n hX d_T_layParts_106 1 rfl ?_
        refine g_iload hX d_T_layParts_107 8 rfl ?_
        obtain ⟨vq53, h54, h55⟩ := obind h30
        refine g_callV hX [.int x1, .int vq36] [] mv_T_73 (c_T_part X.2.1 Y t x1 vq36 ht σ11 _ h54) (by decide) (iwT ht) (shTt ht) rfl rfl rfl (Nat.le_of_ble_eq_true rfl) d_T_layParts_109 (fun h56 => ?_)
        show Gd X Y 0 σ11 [(0, .ref (adr Y t)), (1, .int x1), (2, .int x2), (3, .int vq1), (4, .int vq7), (5, .int vq34), (6, .int vq35), (7, .int vq10), (8, .int vq36)] 112 [.int vq53]
        refine g_istoreV hX [(9, .int vq53), (0, .ref (adr Y t)), (1, .int x1), (2, .int x2), (3, .int vq1), (4, .int vq7), (5, .int vq34), (6, .int vq35), (7, .int vq10), (8, .int vq36)] d_T_layParts_112 (by decide) rfl ?_
        refine g_aload_n hX d_T_layParts_114 1 rfl ?_
        refine g_getR hX (iwT ht) (shTt ht) rfl fl_T_49 d_T_layParts_115 ?_
        refine g_iload hX d_T_layParts_118 0 rfl ?_
        refine g_iload hX d_T_layParts_120 5 rfl ?_
        refine g_iastore hX (iwA8 ht) (shA8 ht) d_T_layParts_122 h55 (fun σ57 h58 => ?_)
        refine g_iload hX d_T_layParts_123 5 rfl ?_
        refine g_aload_n hX d_T_layParts_125 1 rfl ?_
        refine g_getR hX (iwT ht) (shTt ht) rfl fl_T_15 d_T_layParts_126 ?_
        refine g_iload hX d_T_layParts_129 0 rfl ?_
        refine g_iaload hX (iwA2 ht) (shA2 ht) d_T_layParts_131 h58 (fun vq59 h60 => ?_)
        refine g_callS hX [.int vq59] [.int vq7] mv_T_89 (c_J_bitCount X.2.1 Y vq59 σ57 _ rfl) (by decide) rfl rfl (Nat.le_of_ble_eq_true rfl) d_T_layParts_132 (fun h61 => ?_)
        show Gd X Y 0 σ57 [(9, .int vq53), (0, .ref (adr Y t)), (1, .int x1), (2, .int x2), (3, .int vq1), (4, .int vq7), (5, .int vq34), (6, .int vq35), (7, .int vq10), (8, .int vq36)] 135 [.int (J_bitCount vq59), .int vq7]
        refine g_iadd hX d_T_layParts_135 ?_
        refine g_istore hX (fun vq62 => [(4, .int vq62), (9, .int vq53), (0, .ref (adr Y t)), (1, .int x1), (2, .int x2), (3, .int vq1), (5, .int vq34), (6, .int vq35), (7, .int vq10), (8, .int vq36)]) d_T_layParts_136 (by decide) (fun _ => rfl) h60 (fun vq62 h63 => ?_)
        refine g_iinc hX (fun vq64 => [(7, .int vq64), (4, .int vq62), (9, .int vq53), (0, .ref (adr Y t)), (1, .int x1), (2, .int x2), (3, .int vq1), (5, .int vq34), (6, .int vq35), (8, .int vq36)]) d_T_layParts_138 8 rfl rfl (by decide) (fun _ => rfl) h63 (fun vq64 h65 => ?_)
        refine g_goto hX 28 d_T_layParts_141 (by decide) ?_
        refine g_sub (lv2 := [(0, .ref (adr Y t)), (1, .int x1), (2, .int x2), (3, .int vq1), (4, .int vq62), (5, .int vq34), (6, .int vq35), (7, .int vq64)]) [3, 4, 5, 6, 1, 7, 8, 0] rfl ?_
        cases h65
        exact h13 (vq62, vq34, vq35, vq64, σ57) rfl
      refine g_if_ne hX 105 d_T_layParts_57 (by decide) h29 (fun h32 => ?_) (fun h33 => ?_)
      · refine g_sub (lv2 := [(0, .ref (adr Y t)), (1, .int x1), (2, .int x2), (3, .int vq1), (4, .int vq7), (5, .int vq8), (6, .int vq9), (7, .int vq10), (8, .int vq26)]) [1, 2, 3, 4, 5, 6, 7, 8, 0] rfl ?_
        cases h32
        exact KJ30
      · refine g_iload_n hX d_T_layParts_60 4 rfl ?_
        refine g_iconst hX 1 d_T_layParts_61 (by decide) ?_
        refine g_isub hX d_T_layParts_62 ?_
        refine g_iload hX d_T_layParts_63 8 rfl ?_
        refine g_isub hX d_T_layParts_65 ?_
        obtain ⟨vq37, h38, h39⟩ := obind h33
        refine g_callF hX [.int ((vq1 - 1) - vq10)] [] q_225 q_1 q_226 (c_O_factorial X.2.1 Y ((vq1 - 1) - vq10) σ11 _ h38) (by decide) rfl rfl (Nat.le_of_ble_eq_true rfl) d_T_layParts_66 (fun h40 => ?_)
        show Gd X Y 0 σ11 [(8, .int vq26), (0, .ref (adr Y t)), (1, .int x1), (2, .int x2), (3, .int vq1), (4, .int vq7), (5, .int vq8), (6, .int vq9), (7, .int vq10)] 69 [.int vq37]
        refine g_iconst hX 1 d_T_layParts_69 (by decide) ?_
        refine g_max hX (by decide) q_264 q_265 q_6 q_266 (Nat.le_of_ble_eq_true rfl) d_T_layParts_70 ?_
        refine g_istore hX (fun vq41 => [(9, .int vq41), (8, .int vq26), (0, .ref (adr Y t)), (1, .int x1), (2, .int x2), (3, .int vq1), (4, .int vq7), (5, .int vq8), (6, .int vq9), (7, .int vq10)]) d_T_layParts_73 (by decide) (fun _ => rfl) h39 (fun vq41 h42 => ?_)
        refine g_iload hX d_T_layParts_75 7 rfl ?_
        refine g_iload hX d_T_layParts_77 8 rfl ?_
        refine g_iload hX d_T_layParts_79 0 rfl ?_
        refine g_idiv hX d_T_layParts_81 h42 (fun vq43 h44 => ?_)
        obtain ⟨vq45, h46, h47⟩ := obind h44
        refine g_callS hX [.int vq8, .int vq43] [] mv_T_161 (c_T_nthBit X.2.1 Y vq8 vq43 σ11 _ h46) (by decide) rfl rfl (Nat.le_of_ble_eq_true rfl) d_T_layParts_82 (fun h48 => ?_)
        show Gd X Y 0 σ11 [(9, .int vq41), (8, .int vq26), (0, .ref (adr Y t)), (1, .int x1), (2, .int x2), (3, .int vq1), (4, .int vq7), (5, .int vq8), (6, .int vq9), (7, .int vq10)] 85 [.int vq45]
        refine g_istoreV hX [(8, .int vq45), (9, .int vq41), (0, .ref (adr Y t)), (1, .int x1), (2, .int x2), (3, .int vq1), (4, .int vq7), (5, .int vq8), (6, .int vq9), (7, .int vq10)] d_T_layParts_85 (by decide) rfl ?_
        refine g_iload hX d_T_layParts_87 8 rfl ?_
        refine g_iload hX d_T_layParts_89 1 rfl ?_
        refine g_irem hX d_T_layParts_91 h47 (fun vq49 h50 => ?_)
        refine g_istoreV hX [(6, .int vq49), (8, .int vq45), (9, .int vq41), (0, .ref (adr Y t)), (1, .int x1), (2, .int x2), (3, .int vq1), (4, .int vq7), (5, .int vq8), (7, .int vq10)] d_T_layParts_92 (by decide) rfl ?_
        refine g_iload hX d_T_layParts_94 8 rfl ?_
        refine g_iconst hX 1 d_T_layParts_96 (by decide) ?_
        refine g_iload hX d_T_layParts_97 1 rfl ?_
        refine g_ishl hX d_T_layParts_99 ?_
        refine g_iconst hX (-1) d_T_layParts_100 (by decide) ?_
        refine g_ixor hX d_T_layParts_101 ?_
        refine g_iand hX d_T_layParts_102 ?_
        refine g_istore hX (fun vq51 => [(5, .int vq51), (6, .int vq49), (8, .int vq45), (9, .int vq41), (0, .ref (adr Y t)), (1, .int x1), (2, .int x2), (3, .int vq1), (4, .int vq7), (7, .int vq10)]) d_T_layParts_103 (by decide) (fun _ => rfl) h50 (fun vq51 h52 => ?_)
        refine g_sub (lv2 := [(0, .ref (adr Y t)), (1, .int x1), (2, .int x2), (3, .int vq1), (4, .int vq7), (5, .int vq51), (6, .int vq49), (7, .int vq10), (8, .int vq45)]) [4, 5, 6, 7, 8, 0, 1, 9, 2] rfl ?_
        cases h52
        exact KJ30
    refine g_if_ne hX 43 d_T_layParts_35 (by decide) h21 (fun h24 => ?_) (fun h25 => ?_)
    · refine g_iload_n hX d_T_layParts_43 3 rfl ?_
      refine g_iconst hX 1 d_T_layParts_44 (by decide) ?_
      refine g_isub hX d_T_layParts_45 ?_
      refine g_iload hX d_T_layParts_46 7 rfl ?_
      refine g_isub hX d_T_layParts_48 ?_
      refine g_sub (lv2 := [(0, .ref (adr Y t)), (1, .int x1), (2, .int x2), (3, .int vq1), (4, .int vq7), (5, .int vq8), (6, .int vq9), (7, .int vq10)]) [0, 1, 2, 3, 4, 5, 6, 7] rfl ?_
      cases h24
      exact KJ22
    · refine g_iload hX d_T_layParts_38 7 rfl ?_
      refine g_goto hX 49 d_T_layParts_40 (by decide) ?_
      refine g_sub (lv2 := [(0, .ref (adr Y t)), (1, .int x1), (2, .int x2), (3, .int vq1), (4, .int vq7), (5, .int vq8), (6, .int vq9), (7, .int vq10)]) [0, 1, 2, 3, 4, 5, 6, 7] rfl ?_
      cases h25
      exact KJ22
noncomputable def T_layRow_b1 (t : Nat) (vq3 : Int32) (vq4 : Int32) (σ5 : Mem) : Option ((Int32 × Int32 × Mem) ⊕ (Mem)) := if vq4 < 8 then some (.inr σ5) else (T_ways t vq4 σ5).bind (fun vq15 => lt (if vq15 < 1 then 1 else vq15) (fun vq19 => (rm vq3 vq19).bind (fun vq21 => (wr σ5 (t + 10) vq4 vq21).bind (fun σ23 => (dv vq3 vq19).bind (fun vq25 => lt (vq4 + (-1)) (fun vq27 => some (.inl (vq25, vq27, σ23))))))))
noncomputable def T_layRow_b2 (t : Nat) (vq31 : Int32) (σ32 : Mem) : Option ((Int32 × Mem) ⊕ (Mem)) := if (8 + (σ32 t 5)) ≤ vq31 then some (.inr σ32) else (rd σ32 (t + 10) vq31).bind (fun vq42 => (T_layParts t vq31 vq42 σ32).bind (fun σ44 => lt (vq31 + 1) (fun vq48 => some (.inl (vq48, σ44)))))
noncomputable def T_layRow_b3 (t : Nat) (a2 : Nat) (vq50 : Int32) (σ51 : Mem) : Option ((Int32 × Mem) ⊕ (Mem)) := if 8 ≤ vq50 then some (.inr σ51) else (rd σ51 (t + 2) (σ51 t 4)).bind (fun vq61 => ((if ((vq61 >>> (vq50 &&& 31)) &&& 1) = 0 then some σ51 else (rd σ51 (t + 8) vq50).bind (fun vq69 => (T_setAt a2 vq69 vq50 σ51).bind (fun σ71 => some σ71)) : Option (Mem))).bind (fun σ68 => lt (vq50 + 1) (fun vq75 => some (.inl (vq75, σ68)))))
noncomputable def T_layRow (t : Nat) (x1 : Int32) (a2 : Nat) (σ : Mem) : Option (Mem) := lt ((8 + (σ t 5)) - 1) (fun vq1 => (lp (fun s => T_layRow_b1 t s.1 s.2.1 s.2.2) fuel (x1, vq1, σ)).bind (fun σ6 => (wr σ6 (t + 8) (σ6 t 4) 0).bind (fun σ29 => (lp (fun s => T_layRow_b2 t s.1 s.2) fuel (8, σ29)).bind (fun σ33 => (lp (fun s => T_layRow_b3 t a2 s.1 s.2) fuel (0, σ33)).bind (fun σ52 => some σ52)))))
set_option maxHeartbeats 4000000 in
set_option maxRecDepth 100000 in
theorem c_T_layRow (l : Launch) (Y : Wx) (t : Nat) (x1 : Int32) (a2 : Nat) (ht : isT t) (ha2 : isA a2) (σ : Mem) (o : Mem) (hf : T_layRow t x1 a2 σ = some o) : Ct l Y 0 y_T_layRow b_T_layRow 6 none 2 [.ref (adr Y t), .int x1, .ref (adr Y a2)] σ none o := by
  unfold T_layRow at hf
  refine ct_of (by decide) (Nat.le_of_ble_eq_true rfl) rfl (fun X hXl hX hR => ?_)
  subst hXl
  have hX : Fx X Y 0 b_T_layRow 6 R_T 2 := hX
  refine g_iload_n hX d_T_layRow_0 1 rfl ?_
  refine g_istore_nV hX [(3, .int x1), (0, .ref (adr Y t)), (1, .int x1), (2, .ref (adr Y a2))] d_T_layRow_1 (by decide) rfl ?_
  refine g_bipush hX 8 d_T_layRow_2 (by decide) ?_
  refine g_aload_n hX d_T_layRow_4 1 rfl ?_
  refine g_getI hX (iwT ht) (shTt ht) rfl fl_T_28.f d_T_layRow_5 ?_
  refine g_iadd hX d_T_layRow_8 ?_
  refine g_iconst hX 1 d_T_layRow_9 (by decide) ?_
  refine g_isub hX d_T_layRow_10 ?_
  refine g_istore hX (fun vq1 => [(4, .int vq1), (3, .int x1), (0, .ref (adr Y t)), (1, .int x1), (2, .ref (adr Y a2))]) d_T_layRow_11 (by decide) (fun _ => rfl) hf (fun vq1 h2 => ?_)
  obtain ⟨σ6, h10, h11⟩ := obind h2
  have KX11 : Gd X Y 0 σ6 [(0, .ref (adr Y t)), (2, .ref (adr Y a2))] 54 [] := by
    refine g_aload_n hX d_T_layRow_54 0 rfl ?_
    refine g_getR hX (iwT ht) (shTt ht) rfl fl_T_49 d_T_layRow_55 ?_
    refine g_aload_n hX d_T_layRow_58 0 rfl ?_
    refine g_getI hX (iwT ht) (shTt ht) rfl fl_T_24.f d_T_layRow_59 ?_
    refine g_iconst hX 0 d_T_layRow_62 (by decide) ?_
    refine g_iastore hX (iwA8 ht) (shA8 ht) d_T_layRow_63 h11 (fun σ29 h30 => ?_)
    refine g_bipush hX 8 d_T_layRow_64 (by decide) ?_
    refine g_istoreV hX [(4, .int 8), (0, .ref (adr Y t)), (2, .ref (adr Y a2))] d_T_layRow_66 (by decide) rfl ?_
    obtain ⟨σ33, h37, h38⟩ := obind h30
    have KX38 : Gd X Y 0 σ33 [(0, .ref (adr Y t)), (2, .ref (adr Y a2))] 99 [] := by
      refine g_iconst hX 0 d_T_layRow_99 (by decide) ?_
      refine g_istoreV hX [(4, .int 0), (0, .ref (adr Y t)), (2, .ref (adr Y a2))] d_T_layRow_100 (by decide) rfl ?_
      obtain ⟨σ52, h56, h57⟩ := obind h38
      have KX57 : Gd X Y 0 σ52 [] 145 [] := by
        cases h57
        exact g_return hX hR d_T_layRow_145
      refine g_sub (lv2 := [(0, .ref (adr Y t)), (2, .ref (adr Y a2)), (4, .int 0)]) [1, 2, 0] rfl ?_
      refine g_loop (fun s => T_layRow_b3 t a2 s.1 s.2) (fun s => Gd X Y 0 s.2 [(0, .ref (adr Y t)), (2, .ref (adr Y a2)), (4, .int s.1)] 102 []) σ52 ?_ fuel (0, σ33) h56
      intro s y55 h55 h53 h54
      obtain ⟨vq50, σ51⟩ := s
      have h55 : T_layRow_b3 t a2 vq50 σ51 = some y55 := h55
      unfold T_layRow_b3 at h55
      show Gd X Y 0 σ51 [(0, .ref (adr Y t)), (2, .ref (adr Y a2)), (4, .int vq50)] 102 []
      refine g_iload hX d_T_layRow_102 2 rfl ?_
      refine g_bipush hX 8 d_T_layRow_104 (by decide) ?_
      refine g_icmp_ge hX 145 d_T_layRow_106 (by decide) h55 (fun h59 => ?_) (fun h60 => ?_)
      · refine g_sub (lv2 := []) [] rfl ?_
        cases h59
        have h58 := h54 σ51 rfl
        cases h58
        exact KX57
      · refine g_aload_n hX d_T_layRow_109 0 rfl ?_
        refine g_getR hX (iwT ht) (shTt ht) rfl fl_T_15 d_T_layRow_110 ?_
        refine g_aload_n hX d_T_layRow_113 0 rfl ?_
        refine g_getI hX (iwT ht) (shTt ht) rfl fl_T_24.f d_T_layRow_114 ?_
        refine g_iaload hX (iwA2 ht) (shA2 ht) d_T_layRow_117 h60 (fun vq61 h62 => ?_)
        refine g_iload hX d_T_layRow_118 2 rfl ?_
        refine g_ishr hX d_T_layRow_120 ?_
        refine g_iconst hX 1 d_T_layRow_121 (by decide) ?_
        refine g_iand hX d_T_layRow_122 ?_
        obtain ⟨σ68, h63, h64⟩ := obind h62
        have KJ64 : Gd X Y 0 σ68 [(0, .ref (adr Y t)), (2, .ref (adr Y a2)), (4, .int vq50)] 139 [] := by
          refine g_iinc hX (fun vq75 => [(4, .int vq75), (0, .ref (adr Y t)), (2, .ref (adr Y a2))]) d_T_layRow_139 2 rfl rfl (by decide) (fun _ => rfl) h64 (fun vq75 h76 => ?_)
          refine g_goto hX 102 d_T_layRow_142 (by decide) ?_
          refine g_sub (lv2 := [(0, .ref (adr Y t)), (2, .ref (adr Y a2)), (4, .int vq75)]) [1, 2, 0] rfl ?_
          cases h76
          exact h53 (vq75, σ68) rfl
        refine g_if_eq hX 139 d_T_layRow_123 (by decide) h63 (fun h66 => ?_) (fun h67 => ?_)
        · refine g_sub (lv2 := [(0, .ref (adr Y t)), (2, .ref (adr Y a2)), (4, .int vq50)]) [0, 1, 2] rfl ?_
          cases h66
          exact KJ64
        · refine g_aload_n hX d_T_layRow_126 1 rfl ?_
          refine g_aload_n hX d_T_layRow_127 0 rfl ?_
          refine g_getR hX (iwT ht) (shTt ht) rfl fl_T_49 d_T_layRow_128 ?_
          refine g_iload hX d_T_layRow_131 2 rfl ?_
          refine g_iaload hX (iwA8 ht) (shA8 ht) d_T_layRow_133 h67 (fun vq69 h70 => ?_)
          refine g_iload hX d_T_layRow_134 2 rfl ?_
          obtain ⟨σ71, h72, h73⟩ := obind h70
          refine g_callS hX [.ref (adr Y a2), .int vq69, .int vq50] [] mv_T_147 (c_T_setAt X.2.1 Y a2 vq69 vq50 ha2 σ51 _ h72) (by decide) rfl rfl (Nat.le_of_ble_eq_true rfl) d_T_layRow_136 (fun h74 => ?_)
          show Gd X Y 0 σ71 [(0, .ref (adr Y t)), (2, .ref (adr Y a2)), (4, .int vq50)] 139 []
          refine g_sub (lv2 := [(0, .ref (adr Y t)), (2, .ref (adr Y a2)), (4, .int vq50)]) [0, 1, 2] rfl ?_
          cases h73
          exact KJ64
    refine g_sub (lv2 := [(0, .ref (adr Y t)), (2, .ref (adr Y a2)), (4, .int 8)]) [1, 2, 0] rfl ?_
    refine g_loop (fun s => T_layRow_b2 t s.1 s.2) (fun s => Gd X Y 0 s.2 [(0, .ref (adr Y t)), (2, .ref (adr Y a2)), (4, .int s.1)] 68 []) σ33 ?_ fuel (8, σ29) h37
    intro s y36 h36 h34 h35
    obtain ⟨vq31, σ32⟩ := s
    have h36 : T_layRow_b2 t vq31 σ32 = some y36 := h36
    unfold T_layRow_b2 at h36
    show Gd X Y 0 σ32 [(0, .ref (adr Y t)), (2, .ref (adr Y a2)), (4, .int vq31)] 68 []
    refine g_iload hX d_T_layRow_68 2 rfl ?_
    refine g_bipush hX 8 d_T_layRow_70 (by decide) ?_
    refine g_aload_n hX d_T_layRow_72 0 rfl ?_
    refine g_getI hX (iwT ht) (shTt ht) rfl fl_T_28.f d_T_layRow_73 ?_
    refine g_iadd hX d_T_layRow_76 ?_
    refine g_icmp_ge hX 99 d_T_layRow_77 (by decide) h36 (fun h40 => ?_) (fun h41 => ?_)
    · refine g_sub (lv2 := [(0, .ref (adr Y t)), (2, .ref (adr Y a2))]) [0, 1] rfl ?_
      cases h40
      have h39 := h35 σ32 rfl
      cases h39
      exact KX38
    · refine g_aload_n hX d_T_layRow_80 0 rfl ?_
      refine g_iload hX d_T_layRow_81 2 rfl ?_
      refine g_aload_n hX d_T_layRow_83 0 rfl ?_
      refine g_getR hX (iwT ht) (shTt ht) rfl fl_T_55 d_T_layRow_84 ?_
      refine g_iload hX d_T_layRow_87 2 rfl ?_
      refine g_iaload hX (iwA10 ht) (shA10 ht) d_T_layRow_89 h41 (fun vq42 h43 => ?_)
      obtain ⟨σ44, h45, h46⟩ := obind h43
      refine g_callV hX [.int vq31, .int vq42] [] mv_T_155 (c_T_layParts X.2.1 Y t vq31 vq42 ht σ32 _ h45) (by decide) (iwT ht) (shTt ht) rfl rfl rfl (Nat.le_of_ble_eq_true rfl) d_T_layRow_90 (fun h47 => ?_)
      show Gd X Y 0 σ44 [(0, .ref (adr Y t)), (2, .ref (adr Y a2)), (4, .int vq31)] 93 []
      refine g_iinc hX (fun vq48 => [(4, .int vq48), (0, .ref (adr Y t)), (2, .ref (adr Y a2))]) d_T_layRow_93 2 rfl rfl (by decide) (fun _ => rfl) h46 (fun vq48 h49 => ?_)
      refine g_goto hX 68 d_T_layRow_96 (by decide) ?_
      refine g_sub (lv2 := [(0, .ref (adr Y t)), (2, .ref (adr Y a2)), (4, .int vq48)]) [1, 2, 0] rfl ?_
      cases h49
      exact h34 (vq48, σ44) rfl
  refine g_sub (lv2 := [(0, .ref (adr Y t)), (2, .ref (adr Y a2)), (3, .int x1), (4, .int vq1)]) [2, 4, 1, 0] rfl ?_
  refine g_loop (fun s => T_layRow_b1 t s.1 s.2.1 s.2.2) (fun s => Gd X Y 0 s.2.2 [(0, .ref (adr Y t)), (2, .ref (adr Y a2)), (3, .int s.1), (4, .int s.2.1)] 13 []) σ6 ?_ fuel (x1, vq1, σ) h10
  intro s y9 h9 h7 h8
  obtain ⟨vq3, vq4, σ5⟩ := s
  have h9 : T_layRow_b1 t vq3 vq4 σ5 = some y9 := h9
  unfold T_layRow_b1 at h9
  show Gd X Y 0 σ5 [(0, .ref (adr Y t)), (2, .ref (adr Y a2)), (3, .int vq3), (4, .int vq4)] 13 []
  refine g_iload hX d_T_layRow_13 3 rfl ?_
  refine g_bipush hX 8 d_T_layRow_15 (by decide) ?_
  refine g_icmp_lt hX 54 d_T_layRow_17 (by decide) h9 (fun h13 => ?_) (fun h14 => ?_)
  · refine g_sub (lv2 := [(0, .ref (adr Y t)), (2, .ref (adr Y a2))]) [0, 1] rfl ?_
    cases h13
    have h12 := h8 σ5 rfl
    cases h12
    exact KX11
  · refine g_aload_n hX d_T_layRow_20 0 rfl ?_
    refine g_iload hX d_T_layRow_21 3 rfl ?_
    obtain ⟨vq15, h16, h17⟩ := obind h14
    refine g_callV hX [.int vq4] [] mv_T_144 (c_T_ways X.2.1 Y t vq4 ht σ5 _ h16) (by decide) (iwT ht) (shTt ht) rfl rfl rfl (Nat.le_of_ble_eq_true rfl) d_T_layRow_23 (fun h18 => ?_)
    show Gd X Y 0 σ5 [(0, .ref (adr Y t)), (2, .ref (adr Y a2)), (3, .int vq3), (4, .int vq4)] 26 [.int vq15]
    refine g_iconst hX 1 d_T_layRow_26 (by decide) ?_
    refine g_max hX (by decide) q_264 q_265 q_6 q_266 (Nat.le_of_ble_eq_true rfl) d_T_layRow_27 ?_
    refine g_istore hX (fun vq19 => [(5, .int vq19), (0, .ref (adr Y t)), (2, .ref (adr Y a2)), (3, .int vq3), (4, .int vq4)]) d_T_layRow_30 (by decide) (fun _ => rfl) h17 (fun vq19 h20 => ?_)
    refine g_aload_n hX d_T_layRow_32 1 rfl ?_
    refine g_getR hX (iwT ht) (shTt ht) rfl fl_T_55 d_T_layRow_33 ?_
    refine g_iload hX d_T_layRow_36 4 rfl ?_
    refine g_iload_n hX d_T_layRow_38 3 rfl ?_
    refine g_iload hX d_T_layRow_39 0 rfl ?_
    refine g_irem hX d_T_layRow_41 h20 (fun vq21 h22 => ?_)
    refine g_iastore hX (iwA10 ht) (shA10 ht) d_T_layRow_42 h22 (fun σ23 h24 => ?_)
    refine g_iload_n hX d_T_layRow_43 3 rfl ?_
    refine g_iload hX d_T_layRow_44 0 rfl ?_
    refine g_idiv hX d_T_layRow_46 h24 (fun vq25 h26 => ?_)
    refine g_istore_nV hX [(3, .int vq25), (5, .int vq19), (0, .ref (adr Y t)), (2, .ref (adr Y a2)), (4, .int vq4)] d_T_layRow_47 (by decide) rfl ?_
    refine g_iinc hX (fun vq27 => [(4, .int vq27), (3, .int vq25), (5, .int vq19), (0, .ref (adr Y t)), (2, .ref (adr Y a2))]) d_T_layRow_48 4 rfl rfl (by decide) (fun _ => rfl) h26 (fun vq27 h28 => ?_)
    refine g_goto hX 13 d_T_layRow_51 (by decide) ?_
    refine g_sub (lv2 := [(0, .ref (adr Y t)), (2, .ref (adr Y a2)), (3, .int vq25), (4, .int vq27)]) [3, 4, 1, 0] rfl ?_
    cases h28
    exact h7 (vq25, vq27, σ23) rfl
noncomputable def T_leastThing (t : Nat) (x1 : Int32) (σ : Mem) : Option (Int32) := (T_least t x1 σ).bind (fun vq1 => some ((J_bitCount (vq1 - 1)) &&& 7))
set_option maxHeartbeats 4000000 in
set_option maxRecDepth 100000 in
theorem c_T_leastThing (l : Launch) (Y : Wx) (t : Nat) (x1 : Int32) (ht : isT t) (σ : Mem) (o : Int32) (hf : T_leastThing t x1 σ = some o) : Ct l Y 0 y_T_leastThing b_T_leastThing 2 (some .int) 1 [.ref (adr Y t), .int x1] σ (some (.int o)) σ := by
  unfold T_leastThing at hf
  refine ct_of (by decide) (Nat.le_of_ble_eq_true rfl) rfl (fun X hXl hX hR => ?_)
  subst hXl
  have hX : Fx X Y 0 b_T_leastThing 2 R_T 1 := hX
  refine g_aload_n hX d_T_leastThing_0 0 rfl ?_
  refine g_iload_n hX d_T_leastThing_1 1 rfl ?_
  obtain ⟨vq1, h2, h3⟩ := obind hf
  refine g_callV hX [.int x1] [] mv_T_77 (c_T_least X.2.1 Y t x1 ht σ _ h2) (by decide) (iwT ht) (shTt ht) rfl rfl rfl (Nat.le_of_ble_eq_true rfl) d_T_leastThing_2 (fun h4 => ?_)
  show Gd X Y 0 σ [(0, .ref (adr Y t)), (1, .int x1)] 5 [.int vq1]
  refine g_iconst hX 1 d_T_leastThing_5 (by decide) ?_
  refine g_isub hX d_T_leastThing_6 ?_
  refine g_callS hX [.int (vq1 - 1)] [] mv_T_89 (c_J_bitCount X.2.1 Y (vq1 - 1) σ _ rfl) (by decide) rfl rfl (Nat.le_of_ble_eq_true rfl) d_T_leastThing_7 (fun h5 => ?_)
  show Gd X Y 0 σ [(0, .ref (adr Y t)), (1, .int x1)] 10 [.int (J_bitCount (vq1 - 1))]
  refine g_bipush hX 7 d_T_leastThing_10 (by decide) ?_
  refine g_iand hX d_T_leastThing_12 ?_
  cases h3
  exact g_ireturn hX hR d_T_leastThing_13
noncomputable def T_wayOf_b1 (t : Nat) (x1 : Int32) (a2 : Nat) (vq1 : Int32) (vq3 : Int32) (σ4 : Mem) : Option ((Int32 × Mem) ⊕ (Mem)) := if vq1 ≤ vq3 then some (.inr σ4) else (T_part t x1 vq3 σ4).bind (fun vq14 => (T_leastThing t vq14 σ4).bind (fun vq18 => (rd σ4 a2 vq18).bind (fun vq22 => (wr σ4 (t + 8) vq14 vq22).bind (fun σ24 => lt (vq3 + 1) (fun vq26 => some (.inl (vq26, σ24)))))))
noncomputable def T_wayOf_b2 (t : Nat) (x1 : Int32) (vq1 : Int32) (σ5 : Mem) (vq33 : Int32) (vq43 : Int32) (vq44 : Int32) (vq45 : Int32) : Option ((Int32 × Int32 × Int32) ⊕ (Int32 × Int32)) := if vq1 ≤ vq45 then some (.inr (vq43, vq44)) else (T_part t x1 vq45 σ5).bind (fun vq56 => (rd σ5 (t + 8) vq56).bind (fun vq60 => (T_part t x1 vq33 σ5).bind (fun vq62 => (rd σ5 (t + 8) vq62).bind (fun vq66 => lt (if vq66 ≤ vq60 then if vq33 ≤ vq45 then (vq43, vq44) else lt (vq44 + 1) (fun vq77 => (vq43, vq77)) else lt (vq43 + 1) (fun vq79 => (vq79, vq44)) : Int32 × Int32) (fun q => lt q.1 (fun vq75 => lt q.2 (fun vq76 => lt (vq45 + 1) (fun vq81 => some (.inl (vq75, vq76, vq81))))))))))
noncomputable def T_wayOf_b3 (t : Nat) (x1 : Int32) (vq1 : Int32) (σ5 : Mem) (vq32 : Int32) (vq33 : Int32) : Option ((Int32 × Int32) ⊕ (Int32)) := if vq1 ≤ vq33 then some (.inr vq32) else (lp (fun s => T_wayOf_b2 t x1 vq1 σ5 vq33 s.1 s.2.1 s.2.2) fuel (0, 0, 0)).bind (fun q => lt q.1 (fun vq46 => lt q.2 (fun vq47 => (O_factorial ((vq1 - 1) - vq46) σ5).bind (fun vq83 => lt (vq32 + (vq47 * vq83)) (fun vq87 => lt (vq33 + 1) (fun vq89 => some (.inl (vq87, vq89))))))))
noncomputable def T_wayOf (t : Nat) (x1 : Int32) (a2 : Nat) (σ : Mem) : Option (Int32 × Mem) := (rd σ (t + 3) x1).bind (fun vq1 => (lp (fun s => T_wayOf_b1 t x1 a2 vq1 s.1 s.2) fuel (0, σ)).bind (fun σ5 => (rd σ5 (t + 1) x1).bind (fun vq28 => if vq28 = 1 then (T_part t x1 0 σ5).bind (fun vq91 => (rd σ5 (t + 8) vq91).bind (fun vq95 => (T_part t x1 (vq1 - 1) σ5).bind (fun vq97 => (rd σ5 (t + 8) vq97).bind (fun vq101 => lt (if vq101 ≤ vq95 then 1 else 0 : Int32) (fun vq108 => some (vq108, σ5)))))) else (lp (fun s => T_wayOf_b3 t x1 vq1 σ5 s.1 s.2) fuel (0, 0)).bind (fun vq34 => some (vq34, σ5)))))
set_option maxHeartbeats 4000000 in
set_option maxRecDepth 100000 in
theorem c_T_wayOf (l : Launch) (Y : Wx) (t : Nat) (x1 : Int32) (a2 : Nat) (ht : isT t) (ha2 : isA a2) (σ : Mem) (o : Int32 × Mem) (hf : T_wayOf t x1 a2 σ = some o) : Ct l Y 0 y_T_wayOf b_T_wayOf 9 (some .int) 2 [.ref (adr Y t), .int x1, .ref (adr Y a2)] σ (some (.int o.1)) o.2 := by
  unfold T_wayOf at hf
  refine ct_of (by decide) (Nat.le_of_ble_eq_true rfl) rfl (fun X hXl hX hR => ?_)
  subst hXl
  have hX : Fx X Y 0 b_T_wayOf 9 R_T 2 := hX
  refine g_aload_n hX d_T_wayOf_0 0 rfl ?_
  refine g_getR hX (iwT ht) (shTt ht) rfl fl_T_18 d_T_wayOf_1 ?_
  refine g_iload_n hX d_T_wayOf_4 1 rfl ?_
  refine g_iaload hX (iwA3 ht) (shA3 ht) d_T_wayOf_5 hf (fun vq1 h2 => ?_)
  refine g_istore_nV hX [(3, .int vq1), (0, .ref (adr Y t)), (1, .int x1), (2, .ref (adr Y a2))] d_T_wayOf_6 (by decide) rfl ?_
  refine g_iconst hX 0 d_T_wayOf_7 (by decide) ?_
  refine g_istoreV hX [(4, .int 0), (3, .int vq1), (0, .ref (adr Y t)), (1, .int x1), (2, .ref (adr Y a2))] d_T_wayOf_8 (by decide) rfl ?_
  obtain ⟨σ5, h9, h10⟩ := obind h2
  have KX10 : Gd X Y 0 σ5 [(0, .ref (adr Y t)), (1, .int x1), (3, .int vq1)] 46 [] := by
    refine g_aload_n hX d_T_wayOf_46 0 rfl ?_
    refine g_getR hX (iwT ht) (shTt ht) rfl fl_T_11 d_T_wayOf_47 ?_
    refine g_iload_n hX d_T_wayOf_50 1 rfl ?_
    refine g_iaload hX (iwA1 ht) (shA1 ht) d_T_wayOf_51 h10 (fun vq28 h29 => ?_)
    refine g_iconst hX 1 d_T_wayOf_52 (by decide) ?_
    refine g_icmp_ne hX 89 d_T_wayOf_53 (by decide) h29 (fun h30 => ?_) (fun h31 => ?_)
    · refine g_iconst hX 0 d_T_wayOf_89 (by decide) ?_
      refine g_istoreV hX [(4, .int 0), (0, .ref (adr Y t)), (1, .int x1), (3, .int vq1)] d_T_wayOf_90 (by decide) rfl ?_
      refine g_iconst hX 0 d_T_wayOf_92 (by decide) ?_
      refine g_istoreV hX [(5, .int 0), (4, .int 0), (0, .ref (adr Y t)), (1, .int x1), (3, .int vq1)] d_T_wayOf_93 (by decide) rfl ?_
      obtain ⟨vq34, h38, h39⟩ := obind h30
      have KX39 : Gd X Y 0 σ5 [(4, .int vq34)] 188 [] := by
        refine g_iload hX d_T_wayOf_188 0 rfl ?_
        cases h39
        exact g_ireturn hX hR d_T_wayOf_190
      refine g_sub (lv2 := [(0, .ref (adr Y t)), (1, .int x1), (3, .int vq1), (4, .int 0), (5, .int 0)]) [2, 3, 4, 1, 0] rfl ?_
      refine g_loop (fun s => T_wayOf_b3 t x1 vq1 σ5 s.1 s.2) (fun s => Gd X Y 0 σ5 [(0, .ref (adr Y t)), (1, .int x1), (3, .int vq1), (4, .int s.1), (5, .int s.2)] 95 []) vq34 ?_ fuel (0, 0) h38
      intro s y37 h37 h35 h36
      obtain ⟨vq32, vq33⟩ := s
      have h37 : T_wayOf_b3 t x1 vq1 σ5 vq32 vq33 = some y37 := h37
      unfold T_wayOf_b3 at h37
      show Gd X Y 0 σ5 [(0, .ref (adr Y t)), (1, .int x1), (3, .int vq1), (4, .int vq32), (5, .int vq33)] 95 []
      refine g_iload hX d_T_wayOf_95 4 rfl ?_
      refine g_iload_n hX d_T_wayOf_97 2 rfl ?_
      refine g_icmp_ge hX 188 d_T_wayOf_98 (by decide) h37 (fun h41 => ?_) (fun h42 => ?_)
      · refine g_sub (lv2 := [(4, .int vq32)]) [3] rfl ?_
        cases h41
        have h40 := h36 vq32 rfl
        cases h40
        exact KX39
      · refine g_iconst hX 0 d_T_wayOf_101 (by decide) ?_
        refine g_istoreV hX [(6, .int 0), (0, .ref (adr Y t)), (1, .int x1), (3, .int vq1), (4, .int vq32), (5, .int vq33)] d_T_wayOf_102 (by decide) rfl ?_
        refine g_iconst hX 0 d_T_wayOf_104 (by decide) ?_
        refine g_istoreV hX [(7, .int 0), (6, .int 0), (0, .ref (adr Y t)), (1, .int x1), (3, .int vq1), (4, .int vq32), (5, .int vq33)] d_T_wayOf_105 (by decide) rfl ?_
        refine g_iconst hX 0 d_T_wayOf_107 (by decide) ?_
        refine g_istoreV hX [(8, .int 0), (7, .int 0), (6, .int 0), (0, .ref (adr Y t)), (1, .int x1), (3, .int vq1), (4, .int vq32), (5, .int vq33)] d_T_wayOf_108 (by decide) rfl ?_
        obtain ⟨⟨vq46, vq47⟩, h51, h52⟩ := obind h42
        have h52 := lt2 h52
        have KX52 : Gd X Y 0 σ5 [(0, .ref (adr Y t)), (1, .int x1), (3, .int vq1), (4, .int vq32), (5, .int vq33), (6, .int vq46), (7, .int vq47)] 165 [] := by
          refine g_iload hX d_T_wayOf_165 3 rfl ?_
          refine g_iload hX d_T_wayOf_167 6 rfl ?_
          refine g_iload_n hX d_T_wayOf_169 2 rfl ?_
          refine g_iconst hX 1 d_T_wayOf_170 (by decide) ?_
          refine g_isub hX d_T_wayOf_171 ?_
          refine g_iload hX d_T_wayOf_172 5 rfl ?_
          refine g_isub hX d_T_wayOf_174 ?_
          obtain ⟨vq83, h84, h85⟩ := obind h52
          refine g_callF hX [.int ((vq1 - 1) - vq46)] [.int vq47, .int vq32] q_225 q_1 q_226 (c_O_factorial X.2.1 Y ((vq1 - 1) - vq46) σ5 _ h84) (by decide) rfl rfl (Nat.le_of_ble_eq_true rfl) d_T_wayOf_175 (fun h86 => ?_)
          show Gd X Y 0 σ5 [(0, .ref (adr Y t)), (1, .int x1), (3, .int vq1), (4, .int vq32), (5, .int vq33), (6, .int vq46), (7, .int vq47)] 178 [.int vq83, .int vq47, .int vq32]
          refine g_imul hX d_T_wayOf_178 ?_
          refine g_iadd hX d_T_wayOf_179 ?_
          refine g_istore hX (fun vq87 => [(4, .int vq87), (0, .ref (adr Y t)), (1, .int x1), (3, .int vq1), (5, .int vq33), (6, .int vq46), (7, .int vq47)]) d_T_wayOf_180 (by decide) (fun _ => rfl) h85 (fun vq87 h88 => ?_)
          refine g_iinc hX (fun vq89 => [(5, .int vq89), (4, .int vq87), (0, .ref (adr Y t)), (1, .int x1), (3, .int vq1), (6, .int vq46), (7, .int vq47)]) d_T_wayOf_182 4 rfl rfl (by decide) (fun _ => rfl) h88 (fun vq89 h90 => ?_)
          refine g_goto hX 95 d_T_wayOf_185 (by decide) ?_
          refine g_sub (lv2 := [(0, .ref (adr Y t)), (1, .int x1), (3, .int vq1), (4, .int vq87), (5, .int vq89)]) [2, 3, 4, 1, 0] rfl ?_
          cases h90
          exact h35 (vq87, vq89) rfl
        refine g_sub (lv2 := [(0, .ref (adr Y t)), (1, .int x1), (3, .int vq1), (4, .int vq32), (5, .int vq33), (6, .int 0), (7, .int 0), (8, .int 0)]) [3, 4, 5, 6, 7, 2, 1, 0] rfl ?_
        refine g_loop (fun s => T_wayOf_b2 t x1 vq1 σ5 vq33 s.1 s.2.1 s.2.2) (fun s => Gd X Y 0 σ5 [(0, .ref (adr Y t)), (1, .int x1), (3, .int vq1), (4, .int vq32), (5, .int vq33), (6, .int s.1), (7, .int s.2.1), (8, .int s.2.2)] 110 []) (vq46, vq47) ?_ fuel (0, 0, 0) h51
        intro s y50 h50 h48 h49
        obtain ⟨vq43, vq44, vq45⟩ := s
        have h50 : T_wayOf_b2 t x1 vq1 σ5 vq33 vq43 vq44 vq45 = some y50 := h50
        unfold T_wayOf_b2 at h50
        show Gd X Y 0 σ5 [(0, .ref (adr Y t)), (1, .int x1), (3, .int vq1), (4, .int vq32), (5, .int vq33), (6, .int vq43), (7, .int vq44), (8, .int vq45)] 110 []
        refine g_iload hX d_T_wayOf_110 7 rfl ?_
        refine g_iload_n hX d_T_wayOf_112 2 rfl ?_
        refine g_icmp_ge hX 165 d_T_wayOf_113 (by decide) h50 (fun h54 => ?_) (fun h55 => ?_)
        · refine g_sub (lv2 := [(0, .ref (adr Y t)), (1, .int x1), (3, .int vq1), (4, .int vq32), (5, .int vq33), (6, .int vq43), (7, .int vq44)]) [0, 1, 2, 3, 4, 5, 6] rfl ?_
          cases h54
          have h53 := h49 (vq43, vq44) rfl
          cases h53
          exact KX52
        · refine g_aload_n hX d_T_wayOf_116 0 rfl ?_
          refine g_getR hX (iwT ht) (shTt ht) rfl fl_T_49 d_T_wayOf_117 ?_
          refine g_aload_n hX d_T_wayOf_120 0 rfl ?_
          refine g_iload_n hX d_T_wayOf_121 1 rfl ?_
          refine g_iload hX d_T_wayOf_122 7 rfl ?_
          obtain ⟨vq56, h57, h58⟩ := obind h55
          refine g_callV hX [.int x1, .int vq45] [.ref (adr Y (t + 8))] mv_T_73 (c_T_part X.2.1 Y t x1 vq45 ht σ5 _ h57) (by decide) (iwT ht) (shTt ht) rfl rfl rfl (Nat.le_of_ble_eq_true rfl) d_T_wayOf_124 (fun h59 => ?_)
          show Gd X Y 0 σ5 [(0, .ref (adr Y t)), (1, .int x1), (3, .int vq1), (4, .int vq32), (5, .int vq33), (6, .int vq43), (7, .int vq44), (8, .int vq45)] 127 [.int vq56, .ref (adr Y (t + 8))]
          refine g_iaload hX (iwA8 ht) (shA8 ht) d_T_wayOf_127 h58 (fun vq60 h61 => ?_)
          refine g_aload_n hX d_T_wayOf_128 0 rfl ?_
          refine g_getR hX (iwT ht) (shTt ht) rfl fl_T_49 d_T_wayOf_129 ?_
          refine g_aload_n hX d_T_wayOf_132 0 rfl ?_
          refine g_iload_n hX d_T_wayOf_133 1 rfl ?_
          refine g_iload hX d_T_wayOf_134 4 rfl ?_
          obtain ⟨vq62, h63, h64⟩ := obind h61
          refine g_callV hX [.int x1, .int vq33] [.ref (adr Y (t + 8)), .int vq60] mv_T_73 (c_T_part X.2.1 Y t x1 vq33 ht σ5 _ h63) (by decide) (iwT ht) (shTt ht) rfl rfl rfl (Nat.le_of_ble_eq_true rfl) d_T_wayOf_136 (fun h65 => ?_)
          show Gd X Y 0 σ5 [(0, .ref (adr Y t)), (1, .int x1), (3, .int vq1), (4, .int vq32), (5, .int vq33), (6, .int vq43), (7, .int vq44), (8, .int vq45)] 139 [.int vq62, .ref (adr Y (t + 8)), .int vq60]
          refine g_iaload hX (iwA8 ht) (shA8 ht) d_T_wayOf_139 h64 (fun vq66 h67 => ?_)
          obtain ⟨⟨vq75, vq76⟩, h68, h69⟩ := ltex h67
          have h69 := lt2 h69
          have KJ69 : Gd X Y 0 σ5 [(0, .ref (adr Y t)), (1, .int x1), (3, .int vq1), (4, .int vq32), (5, .int vq33), (6, .int vq75), (7, .int vq76), (8, .int vq45)] 159 [] := by
            refine g_iinc hX (fun vq81 => [(8, .int vq81), (0, .ref (adr Y t)), (1, .int x1), (3, .int vq1), (4, .int vq32), (5, .int vq33), (6, .int vq75), (7, .int vq76)]) d_T_wayOf_159 7 rfl rfl (by decide) (fun _ => rfl) h69 (fun vq81 h82 => ?_)
            refine g_goto hX 110 d_T_wayOf_162 (by decide) ?_
            refine g_sub (lv2 := [(0, .ref (adr Y t)), (1, .int x1), (3, .int vq1), (4, .int vq32), (5, .int vq33), (6, .int vq75), (7, .int vq76), (8, .int vq81)]) [1, 2, 3, 4, 5, 6, 7, 0] rfl ?_
            cases h82
            exact h48 (vq75, vq76, vq81) rfl
          refine g_icmp_ge hX 149 d_T_wayOf_140 (by decide) h68 (fun h71 => ?_) (fun h72 => ?_)
          · refine g_iload hX d_T_wayOf_149 7 rfl ?_
            refine g_iload hX d_T_wayOf_151 4 rfl ?_
            refine g_icmp_ge hX 159 d_T_wayOf_153 (by decide) h71 (fun h73 => ?_) (fun h74 => ?_)
            · refine g_sub (lv2 := [(0, .ref (adr Y t)), (1, .int x1), (3, .int vq1), (4, .int vq32), (5, .int vq33), (6, .int vq43), (7, .int vq44), (8, .int vq45)]) [0, 1, 2, 3, 4, 5, 6, 7] rfl ?_
              cases h73
              exact KJ69
            · refine g_iinc hX (fun vq77 => [(7, .int vq77), (0, .ref (adr Y t)), (1, .int x1), (3, .int vq1), (4, .int vq32), (5, .int vq33), (6, .int vq43), (8, .int vq45)]) d_T_wayOf_156 6 rfl rfl (by decide) (fun _ => rfl) h74 (fun vq77 h78 => ?_)
              refine g_sub (lv2 := [(0, .ref (adr Y t)), (1, .int x1), (3, .int vq1), (4, .int vq32), (5, .int vq33), (6, .int vq43), (7, .int vq77), (8, .int vq45)]) [1, 2, 3, 4, 5, 6, 0, 7] rfl ?_
              cases h78
              exact KJ69
          · refine g_iinc hX (fun vq79 => [(6, .int vq79), (0, .ref (adr Y t)), (1, .int x1), (3, .int vq1), (4, .int vq32), (5, .int vq33), (7, .int vq44), (8, .int vq45)]) d_T_wayOf_143 5 rfl rfl (by decide) (fun _ => rfl) h72 (fun vq79 h80 => ?_)
            refine g_goto hX 159 d_T_wayOf_146 (by decide) ?_
            refine g_sub (lv2 := [(0, .ref (adr Y t)), (1, .int x1), (3, .int vq1), (4, .int vq32), (5, .int vq33), (6, .int vq79), (7, .int vq44), (8, .int vq45)]) [1, 2, 3, 4, 5, 0, 6, 7] rfl ?_
            cases h80
            exact KJ69
    · refine g_aload_n hX d_T_wayOf_56 0 rfl ?_
      refine g_getR hX (iwT ht) (shTt ht) rfl fl_T_49 d_T_wayOf_57 ?_
      refine g_aload_n hX d_T_wayOf_60 0 rfl ?_
      refine g_iload_n hX d_T_wayOf_61 1 rfl ?_
      refine g_iconst hX 0 d_T_wayOf_62 (by decide) ?_
      obtain ⟨vq91, h92, h93⟩ := obind h31
      refine g_callV hX [.int x1, .int 0] [.ref (adr Y (t + 8))] mv_T_73 (c_T_part X.2.1 Y t x1 0 ht σ5 _ h92) (by decide) (iwT ht) (shTt ht) rfl rfl rfl (Nat.le_of_ble_eq_true rfl) d_T_wayOf_63 (fun h94 => ?_)
      show Gd X Y 0 σ5 [(0, .ref (adr Y t)), (1, .int x1), (3, .int vq1)] 66 [.int vq91, .ref (adr Y (t + 8))]
      refine g_iaload hX (iwA8 ht) (shA8 ht) d_T_wayOf_66 h93 (fun vq95 h96 => ?_)
      refine g_aload_n hX d_T_wayOf_67 0 rfl ?_
      refine g_getR hX (iwT ht) (shTt ht) rfl fl_T_49 d_T_wayOf_68 ?_
      refine g_aload_n hX d_T_wayOf_71 0 rfl ?_
      refine g_iload_n hX d_T_wayOf_72 1 rfl ?_
      refine g_iload_n hX d_T_wayOf_73 2 rfl ?_
      refine g_iconst hX 1 d_T_wayOf_74 (by decide) ?_
      refine g_isub hX d_T_wayOf_75 ?_
      obtain ⟨vq97, h98, h99⟩ := obind h96
      refine g_callV hX [.int x1, .int (vq1 - 1)] [.ref (adr Y (t + 8)), .int vq95] mv_T_73 (c_T_part X.2.1 Y t x1 (vq1 - 1) ht σ5 _ h98) (by decide) (iwT ht) (shTt ht) rfl rfl rfl (Nat.le_of_ble_eq_true rfl) d_T_wayOf_76 (fun h100 => ?_)
      show Gd X Y 0 σ5 [(0, .ref (adr Y t)), (1, .int x1), (3, .int vq1)] 79 [.int vq97, .ref (adr Y (t + 8)), .int vq95]
      refine g_iaload hX (iwA8 ht) (shA8 ht) d_T_wayOf_79 h99 (fun vq101 h102 => ?_)
      obtain ⟨vq108, h103, h104⟩ := ltex h102
      have KJ104 : okR (some .boolean) (some (.int vq108)) → Gd X Y 0 σ5 [] 88 [.int vq108] := by
        intro hbvq108
        cases h104
        exact g_ireturn hX hR d_T_wayOf_88
      refine g_icmp_ge hX 87 d_T_wayOf_80 (by decide) h103 (fun h106 => ?_) (fun h107 => ?_)
      · refine g_iconst hX 1 d_T_wayOf_87 (by decide) ?_
        refine g_sub (lv2 := []) [] rfl ?_
        cases h106
        exact KJ104 okB1
      · refine g_iconst hX 0 d_T_wayOf_83 (by decide) ?_
        refine g_goto hX 88 d_T_wayOf_84 (by decide) ?_
        refine g_sub (lv2 := []) [] rfl ?_
        cases h107
        exact KJ104 okB0
  refine g_sub (lv2 := [(0, .ref (adr Y t)), (1, .int x1), (2, .ref (adr Y a2)), (3, .int vq1), (4, .int 0)]) [2, 3, 4, 1, 0] rfl ?_
  refine g_loop (fun s => T_wayOf_b1 t x1 a2 vq1 s.1 s.2) (fun s => Gd X Y 0 s.2 [(0, .ref (adr Y t)), (1, .int x1), (2, .ref (adr Y a2)), (3, .int vq1), (4, .int s.1)] 10 []) σ5 ?_ fuel (0, σ) h9
  intro s y8 h8 h6 h7
  obtain ⟨vq3, σ4⟩ := s
  have h8 : T_wayOf_b1 t x1 a2 vq1 vq3 σ4 = some y8 := h8
  unfold T_wayOf_b1 at h8
  show Gd X Y 0 σ4 [(0, .ref (adr Y t)), (1, .int x1), (2, .ref (adr Y a2)), (3, .int vq1), (4, .int vq3)] 10 []
  refine g_iload hX d_T_wayOf_10 4 rfl ?_
  refine g_iload_n hX d_T_wayOf_12 3 rfl ?_
  refine g_icmp_ge hX 46 d_T_wayOf_13 (by decide) h8 (fun h12 => ?_) (fun h13 => ?_)
  · refine g_sub (lv2 := [(0, .ref (adr Y t)), (1, .int x1), (3, .int vq1)]) [0, 1, 3] rfl ?_
    cases h12
    have h11 := h7 σ4 rfl
    cases h11
    exact KX10
  · refine g_aload_n hX d_T_wayOf_16 0 rfl ?_
    refine g_iload_n hX d_T_wayOf_17 1 rfl ?_
    refine g_iload hX d_T_wayOf_18 4 rfl ?_
    obtain ⟨vq14, h15, h16⟩ := obind h13
    refine g_callV hX [.int x1, .int vq3] [] mv_T_73 (c_T_part X.2.1 Y t x1 vq3 ht σ4 _ h15) (by decide) (iwT ht) (shTt ht) rfl rfl rfl (Nat.le_of_ble_eq_true rfl) d_T_wayOf_20 (fun h17 => ?_)
    show Gd X Y 0 σ4 [(0, .ref (adr Y t)), (1, .int x1), (2, .ref (adr Y a2)), (3, .int vq1), (4, .int vq3)] 23 [.int vq14]
    refine g_istoreV hX [(5, .int vq14), (0, .ref (adr Y t)), (1, .int x1), (2, .ref (adr Y a2)), (3, .int vq1), (4, .int vq3)] d_T_wayOf_23 (by decide) rfl ?_
    refine g_aload_n hX d_T_wayOf_25 1 rfl ?_
    refine g_getR hX (iwT ht) (shTt ht) rfl fl_T_49 d_T_wayOf_26 ?_
    refine g_iload hX d_T_wayOf_29 0 rfl ?_
    refine g_aload_n hX d_T_wayOf_31 3 rfl ?_
    refine g_aload_n hX d_T_wayOf_32 1 rfl ?_
    refine g_iload hX d_T_wayOf_33 0 rfl ?_
    obtain ⟨vq18, h19, h20⟩ := obind h16
    refine g_callV hX [.int vq14] [.ref (adr Y a2), .int vq14, .ref (adr Y (t + 8))] mv_T_168 (c_T_leastThing X.2.1 Y t vq14 ht σ4 _ h19) (by decide) (iwT ht) (shTt ht) rfl rfl rfl (Nat.le_of_ble_eq_true rfl) d_T_wayOf_35 (fun h21 => ?_)
    show Gd X Y 0 σ4 [(5, .int vq14), (0, .ref (adr Y t)), (1, .int x1), (2, .ref (adr Y a2)), (3, .int vq1), (4, .int vq3)] 38 [.int vq18, .ref (adr Y a2), .int vq14, .ref (adr Y (t + 8))]
    refine g_iaload hX ha2.1 ha2.2 d_T_wayOf_38 h20 (fun vq22 h23 => ?_)
    refine g_iastore hX (iwA8 ht) (shA8 ht) d_T_wayOf_39 h23 (fun σ24 h25 => ?_)
    refine g_iinc hX (fun vq26 => [(4, .int vq26), (5, .int vq14), (0, .ref (adr Y t)), (1, .int x1), (2, .ref (adr Y a2)), (3, .int vq1)]) d_T_wayOf_40 5 rfl rfl (by decide) (fun _ => rfl) h25 (fun vq26 h27 => ?_)
    refine g_goto hX 10 d_T_wayOf_43 (by decide) ?_
    refine g_sub (lv2 := [(0, .ref (adr Y t)), (1, .int x1), (2, .ref (adr Y a2)), (3, .int vq1), (4, .int vq26)]) [2, 3, 4, 5, 0] rfl ?_
    cases h27
    exact h6 (vq26, σ24) rfl
noncomputable def T_numberOf_b1 (t : Nat) (a1 : Nat) (vq1 : Int32) (vq2 : Int32) (σ3 : Mem) : Option ((Int32 × Int32 × Mem) ⊕ (Int32 × Mem)) := if (8 + (σ3 t 5)) ≤ vq2 then some (.inr (vq1, σ3)) else (T_ways t vq2 σ3).bind (fun vq14 => (T_wayOf t vq2 a1 σ3).bind (fun q => lt q.1 (fun vq18 => lt q.2 (fun σ19 => lt ((vq1 * vq14) + vq18) (fun vq23 => lt (vq2 + 1) (fun vq25 => some (.inl (vq23, vq25, σ19))))))))
noncomputable def T_numberOf (t : Nat) (a1 : Nat) (σ : Mem) : Option (Int32 × Mem) := (lp (fun s => T_numberOf_b1 t a1 s.1 s.2.1 s.2.2) fuel (0, 8, σ)).bind (fun q => lt q.1 (fun vq4 => lt q.2 (fun σ5 => some (vq4, σ5))))
set_option maxHeartbeats 4000000 in
set_option maxRecDepth 100000 in
theorem c_T_numberOf (l : Launch) (Y : Wx) (t : Nat) (a1 : Nat) (ht : isT t) (ha1 : isA a1) (σ : Mem) (o : Int32 × Mem) (hf : T_numberOf t a1 σ = some o) : Ct l Y 0 y_T_numberOf b_T_numberOf 4 (some .int) 3 [.ref (adr Y t), .ref (adr Y a1)] σ (some (.int o.1)) o.2 := by
  unfold T_numberOf at hf
  refine ct_of (by decide) (Nat.le_of_ble_eq_true rfl) rfl (fun X hXl hX hR => ?_)
  subst hXl
  have hX : Fx X Y 0 b_T_numberOf 4 R_T 3 := hX
  refine g_iconst hX 0 d_T_numberOf_0 (by decide) ?_
  refine g_istore_nV hX [(2, .int 0), (0, .ref (adr Y t)), (1, .ref (adr Y a1))] d_T_numberOf_1 (by decide) rfl ?_
  refine g_bipush hX 8 d_T_numberOf_2 (by decide) ?_
  refine g_istore_nV hX [(3, .int 8), (2, .int 0), (0, .ref (adr Y t)), (1, .ref (adr Y a1))] d_T_numberOf_4 (by decide) rfl ?_
  obtain ⟨⟨vq4, σ5⟩, h9, h10⟩ := obind hf
  have h10 := lt2 h10
  have KX10 : Gd X Y 0 σ5 [(2, .int vq4)] 37 [] := by
    refine g_iload_n hX d_T_numberOf_37 0 rfl ?_
    cases h10
    exact g_ireturn hX hR d_T_numberOf_38
  refine g_sub (lv2 := [(0, .ref (adr Y t)), (1, .ref (adr Y a1)), (2, .int 0), (3, .int 8)]) [2, 3, 1, 0] rfl ?_
  refine g_loop (fun s => T_numberOf_b1 t a1 s.1 s.2.1 s.2.2) (fun s => Gd X Y 0 s.2.2 [(0, .ref (adr Y t)), (1, .ref (adr Y a1)), (2, .int s.1), (3, .int s.2.1)] 5 []) (vq4, σ5) ?_ fuel (0, 8, σ) h9
  intro s y8 h8 h6 h7
  obtain ⟨vq1, vq2, σ3⟩ := s
  have h8 : T_numberOf_b1 t a1 vq1 vq2 σ3 = some y8 := h8
  unfold T_numberOf_b1 at h8
  show Gd X Y 0 σ3 [(0, .ref (adr Y t)), (1, .ref (adr Y a1)), (2, .int vq1), (3, .int vq2)] 5 []
  refine g_iload_n hX d_T_numberOf_5 3 rfl ?_
  refine g_bipush hX 8 d_T_numberOf_6 (by decide) ?_
  refine g_aload_n hX d_T_numberOf_8 0 rfl ?_
  refine g_getI hX (iwT ht) (shTt ht) rfl fl_T_28.f d_T_numberOf_9 ?_
  refine g_iadd hX d_T_numberOf_12 ?_
  refine g_icmp_ge hX 37 d_T_numberOf_13 (by decide) h8 (fun h12 => ?_) (fun h13 => ?_)
  · refine g_sub (lv2 := [(2, .int vq1)]) [2] rfl ?_
    cases h12
    have h11 := h7 (vq1, σ3) rfl
    cases h11
    exact KX10
  · refine g_iload_n hX d_T_numberOf_16 2 rfl ?_
    refine g_aload_n hX d_T_numberOf_17 0 rfl ?_
    refine g_iload_n hX d_T_numberOf_18 3 rfl ?_
    obtain ⟨vq14, h15, h16⟩ := obind h13
    refine g_callV hX [.int vq2] [.int vq1] mv_T_144 (c_T_ways X.2.1 Y t vq2 ht σ3 _ h15) (by decide) (iwT ht) (shTt ht) rfl rfl rfl (Nat.le_of_ble_eq_true rfl) d_T_numberOf_19 (fun h17 => ?_)
    show Gd X Y 0 σ3 [(0, .ref (adr Y t)), (1, .ref (adr Y a1)), (2, .int vq1), (3, .int vq2)] 22 [.int vq14, .int vq1]
    refine g_imul hX d_T_numberOf_22 ?_
    refine g_aload_n hX d_T_numberOf_23 0 rfl ?_
    refine g_iload_n hX d_T_numberOf_24 3 rfl ?_
    refine g_aload_n hX d_T_numberOf_25 1 rfl ?_
    obtain ⟨⟨vq18, σ19⟩, h20, h21⟩ := obind h16
    have h21 := lt2 h21
    refine g_callV hX [.int vq2, .ref (adr Y a1)] [.int (vq1 * vq14)] mv_T_164 (c_T_wayOf X.2.1 Y t vq2 a1 ht ha1 σ3 _ h20) (by decide) (iwT ht) (shTt ht) rfl rfl rfl (Nat.le_of_ble_eq_true rfl) d_T_numberOf_26 (fun h22 => ?_)
    show Gd X Y 0 σ19 [(0, .ref (adr Y t)), (1, .ref (adr Y a1)), (2, .int vq1), (3, .int vq2)] 29 [.int vq18, .int (vq1 * vq14)]
    refine g_iadd hX d_T_numberOf_29 ?_
    refine g_istore_n hX (fun vq23 => [(2, .int vq23), (0, .ref (adr Y t)), (1, .ref (adr Y a1)), (3, .int vq2)]) d_T_numberOf_30 (by decide) (fun _ => rfl) h21 (fun vq23 h24 => ?_)
    refine g_iinc hX (fun vq25 => [(3, .int vq25), (2, .int vq23), (0, .ref (adr Y t)), (1, .ref (adr Y a1))]) d_T_numberOf_31 3 rfl rfl (by decide) (fun _ => rfl) h24 (fun vq25 h26 => ?_)
    refine g_goto hX 5 d_T_numberOf_34 (by decide) ?_
    refine g_sub (lv2 := [(0, .ref (adr Y t)), (1, .ref (adr Y a1)), (2, .int vq23), (3, .int vq25)]) [2, 3, 1, 0] rfl ?_
    cases h26
    exact h6 (vq23, vq25, σ19) rfl
noncomputable def T_besideIn_b1 (t : Nat) (x1 : Int32) (x2 : Int32) (σ : Mem) (vq1 : Int32) (vq2 : Int32) (vq3 : Int32) (vq4 : Int32) : Option ((Int32 × Int32 × Int32 × Int32) ⊕ (Int32 × Int32)) := (rd σ (t + 3) x1).bind (fun vq13 => if vq13 ≤ vq4 then some (.inr (vq1, vq2)) else (T_part t x1 vq4 σ).bind (fun vq17 => (rd σ (t + 2) vq17).bind (fun vq21 => lt (if (vq21 &&& x2) = 0 then if vq3 = 0 then lt (vq1 + (J_bitCount vq21)) (fun vq31 => (vq31, vq2, vq3)) else lt (vq2 + (J_bitCount vq21)) (fun vq37 => (vq1, vq37, vq3)) else (vq1, vq2, 1) : Int32 × Int32 × Int32) (fun q => lt q.1 (fun vq33 => lt q.2.1 (fun vq34 => lt q.2.2 (fun vq35 => lt (vq4 + 1) (fun vq39 => some (.inl (vq33, vq34, vq35, vq39))))))))))
noncomputable def T_besideIn (t : Nat) (x1 : Int32) (x2 : Int32) (x3 : Int32) (σ : Mem) : Option (Int32) := (lp (fun s => T_besideIn_b1 t x1 x2 σ s.1 s.2.1 s.2.2.1 s.2.2.2) fuel (0, 0, 0, 0)).bind (fun q => lt q.1 (fun vq5 => lt q.2 (fun vq6 => (rd σ (t + 1) x1).bind (fun vq41 => if vq41 = 0 then lt (if x3 = 0 then 0 else (vq5 + vq6) : Int32) (fun vq56 => some vq56) else lt (if x3 = 0 then (if vq6 < vq5 then vq6 else vq5) else (if vq5 < vq6 then vq6 else vq5) : Int32) (fun vq50 => some vq50)))))
set_option maxHeartbeats 4000000 in
set_option maxRecDepth 100000 in
theorem c_T_besideIn (l : Launch) (Y : Wx) (t : Nat) (x1 : Int32) (x2 : Int32) (x3 : Int32) (ht : isT t) (σ : Mem) (o : Int32) (hf : T_besideIn t x1 x2 x3 σ = some o) : Ct l Y 0 y_T_besideIn b_T_besideIn 9 (some .int) 1 [.ref (adr Y t), .int x1, .int x2, .int x3] σ (some (.int o)) σ := by
  unfold T_besideIn at hf
  refine ct_of (by decide) (Nat.le_of_ble_eq_true rfl) rfl (fun X hXl hX hR => ?_)
  subst hXl
  have hX : Fx X Y 0 b_T_besideIn 9 R_T 1 := hX
  refine g_iconst hX 0 d_T_besideIn_0 (by decide) ?_
  refine g_istoreV hX [(4, .int 0), (0, .ref (adr Y t)), (1, .int x1), (2, .int x2), (3, .int x3)] d_T_besideIn_1 (by decide) rfl ?_
  refine g_iconst hX 0 d_T_besideIn_3 (by decide) ?_
  refine g_istoreV hX [(5, .int 0), (4, .int 0), (0, .ref (adr Y t)), (1, .int x1), (2, .int x2), (3, .int x3)] d_T_besideIn_4 (by decide) rfl ?_
  refine g_iconst hX 0 d_T_besideIn_6 (by decide) ?_
  refine g_istoreV hX [(6, .int 0), (5, .int 0), (4, .int 0), (0, .ref (adr Y t)), (1, .int x1), (2, .int x2), (3, .int x3)] d_T_besideIn_7 (by decide) rfl ?_
  refine g_iconst hX 0 d_T_besideIn_9 (by decide) ?_
  refine g_istoreV hX [(7, .int 0), (6, .int 0), (5, .int 0), (4, .int 0), (0, .ref (adr Y t)), (1, .int x1), (2, .int x2), (3, .int x3)] d_T_besideIn_10 (by decide) rfl ?_
  obtain ⟨⟨vq5, vq6⟩, h10, h11⟩ := obind hf
  have h11 := lt2 h11
  have KX11 : Gd X Y 0 σ [(0, .ref (adr Y t)), (1, .int x1), (3, .int x3), (4, .int vq5), (5, .int vq6)] 84 [] := by
    refine g_aload_n hX d_T_besideIn_84 0 rfl ?_
    refine g_getR hX (iwT ht) (shTt ht) rfl fl_T_11 d_T_besideIn_85 ?_
    refine g_iload_n hX d_T_besideIn_88 1 rfl ?_
    refine g_iaload hX (iwA1 ht) (shA1 ht) d_T_besideIn_89 h11 (fun vq41 h42 => ?_)
    refine g_if_ne hX 107 d_T_besideIn_90 (by decide) h42 (fun h43 => ?_) (fun h44 => ?_)
    · refine g_iload_n hX d_T_besideIn_107 2 rfl ?_
      obtain ⟨vq50, h45, h46⟩ := ltex h43
      have KJ46 : Gd X Y 0 σ [] 128 [.int vq50] := by
        cases h46
        exact g_ireturn hX hR d_T_besideIn_128
      refine g_if_eq hX 121 d_T_besideIn_108 (by decide) h45 (fun h48 => ?_) (fun h49 => ?_)
      · refine g_iload hX d_T_besideIn_121 3 rfl ?_
        refine g_iload hX d_T_besideIn_123 4 rfl ?_
        refine g_min hX (by decide) q_298 q_299 q_6 q_300 (Nat.le_of_ble_eq_true rfl) d_T_besideIn_125 ?_
        refine g_sub (lv2 := []) [] rfl ?_
        cases h48
        exact KJ46
      · refine g_iload hX d_T_besideIn_111 3 rfl ?_
        refine g_iload hX d_T_besideIn_113 4 rfl ?_
        refine g_max hX (by decide) q_264 q_265 q_6 q_266 (Nat.le_of_ble_eq_true rfl) d_T_besideIn_115 ?_
        refine g_goto hX 128 d_T_besideIn_118 (by decide) ?_
        refine g_sub (lv2 := []) [] rfl ?_
        cases h49
        exact KJ46
    · refine g_iload_n hX d_T_besideIn_93 2 rfl ?_
      obtain ⟨vq56, h51, h52⟩ := ltex h44
      have KJ52 : Gd X Y 0 σ [] 106 [.int vq56] := by
        cases h52
        exact g_ireturn hX hR d_T_besideIn_106
      refine g_if_eq hX 105 d_T_besideIn_94 (by decide) h51 (fun h54 => ?_) (fun h55 => ?_)
      · refine g_iconst hX 0 d_T_besideIn_105 (by decide) ?_
        refine g_sub (lv2 := []) [] rfl ?_
        cases h54
        exact KJ52
      · refine g_iload hX d_T_besideIn_97 3 rfl ?_
        refine g_iload hX d_T_besideIn_99 4 rfl ?_
        refine g_iadd hX d_T_besideIn_101 ?_
        refine g_goto hX 106 d_T_besideIn_102 (by decide) ?_
        refine g_sub (lv2 := []) [] rfl ?_
        cases h55
        exact KJ52
  refine g_sub (lv2 := [(0, .ref (adr Y t)), (1, .int x1), (2, .int x2), (3, .int x3), (4, .int 0), (5, .int 0), (6, .int 0), (7, .int 0)]) [4, 5, 6, 7, 3, 2, 1, 0] rfl ?_
  refine g_loop (fun s => T_besideIn_b1 t x1 x2 σ s.1 s.2.1 s.2.2.1 s.2.2.2) (fun s => Gd X Y 0 σ [(0, .ref (adr Y t)), (1, .int x1), (2, .int x2), (3, .int x3), (4, .int s.1), (5, .int s.2.1), (6, .int s.2.2.1), (7, .int s.2.2.2)] 12 []) (vq5, vq6) ?_ fuel (0, 0, 0, 0) h10
  intro s y9 h9 h7 h8
  obtain ⟨vq1, vq2, vq3, vq4⟩ := s
  have h9 : T_besideIn_b1 t x1 x2 σ vq1 vq2 vq3 vq4 = some y9 := h9
  unfold T_besideIn_b1 at h9
  show Gd X Y 0 σ [(0, .ref (adr Y t)), (1, .int x1), (2, .int x2), (3, .int x3), (4, .int vq1), (5, .int vq2), (6, .int vq3), (7, .int vq4)] 12 []
  refine g_iload hX d_T_besideIn_12 7 rfl ?_
  refine g_aload_n hX d_T_besideIn_14 0 rfl ?_
  refine g_getR hX (iwT ht) (shTt ht) rfl fl_T_18 d_T_besideIn_15 ?_
  refine g_iload_n hX d_T_besideIn_18 1 rfl ?_
  refine g_iaload hX (iwA3 ht) (shA3 ht) d_T_besideIn_19 h9 (fun vq13 h14 => ?_)
  refine g_icmp_ge hX 84 d_T_besideIn_20 (by decide) h14 (fun h15 => ?_) (fun h16 => ?_)
  · refine g_sub (lv2 := [(0, .ref (adr Y t)), (1, .int x1), (3, .int x3), (4, .int vq1), (5, .int vq2)]) [0, 1, 3, 4, 5] rfl ?_
    cases h15
    have h12 := h8 (vq1, vq2) rfl
    cases h12
    exact KX11
  · refine g_aload_n hX d_T_besideIn_23 0 rfl ?_
    refine g_getR hX (iwT ht) (shTt ht) rfl fl_T_15 d_T_besideIn_24 ?_
    refine g_aload_n hX d_T_besideIn_27 0 rfl ?_
    refine g_iload_n hX d_T_besideIn_28 1 rfl ?_
    refine g_iload hX d_T_besideIn_29 7 rfl ?_
    obtain ⟨vq17, h18, h19⟩ := obind h16
    refine g_callV hX [.int x1, .int vq4] [.ref (adr Y (t + 2))] mv_T_73 (c_T_part X.2.1 Y t x1 vq4 ht σ _ h18) (by decide) (iwT ht) (shTt ht) rfl rfl rfl (Nat.le_of_ble_eq_true rfl) d_T_besideIn_31 (fun h20 => ?_)
    show Gd X Y 0 σ [(0, .ref (adr Y t)), (1, .int x1), (2, .int x2), (3, .int x3), (4, .int vq1), (5, .int vq2), (6, .int vq3), (7, .int vq4)] 34 [.int vq17, .ref (adr Y (t + 2))]
    refine g_iaload hX (iwA2 ht) (shA2 ht) d_T_besideIn_34 h19 (fun vq21 h22 => ?_)
    refine g_istoreV hX [(8, .int vq21), (0, .ref (adr Y t)), (1, .int x1), (2, .int x2), (3, .int x3), (4, .int vq1), (5, .int vq2), (6, .int vq3), (7, .int vq4)] d_T_besideIn_35 (by decide) rfl ?_
    refine g_iload hX d_T_besideIn_37 0 rfl ?_
    refine g_iload_n hX d_T_besideIn_39 3 rfl ?_
    refine g_iand hX d_T_besideIn_40 ?_
    obtain ⟨⟨vq33, vq34, vq35⟩, h23, h24⟩ := ltex h22
    have h24 := lt3 h24
    have KJ24 : Gd X Y 0 σ [(0, .ref (adr Y t)), (1, .int x1), (2, .int x2), (3, .int x3), (4, .int vq33), (5, .int vq34), (6, .int vq35), (7, .int vq4)] 78 [] := by
      refine g_iinc hX (fun vq39 => [(7, .int vq39), (0, .ref (adr Y t)), (1, .int x1), (2, .int x2), (3, .int x3), (4, .int vq33), (5, .int vq34), (6, .int vq35)]) d_T_besideIn_78 7 rfl rfl (by decide) (fun _ => rfl) h24 (fun vq39 h40 => ?_)
      refine g_goto hX 12 d_T_besideIn_81 (by decide) ?_
      refine g_sub (lv2 := [(0, .ref (adr Y t)), (1, .int x1), (2, .int x2), (3, .int x3), (4, .int vq33), (5, .int vq34), (6, .int vq35), (7, .int vq39)]) [1, 2, 3, 4, 5, 6, 7, 0] rfl ?_
      cases h40
      exact h7 (vq33, vq34, vq35, vq39) rfl
    refine g_if_eq hX 50 d_T_besideIn_41 (by decide) h23 (fun h26 => ?_) (fun h27 => ?_)
    · refine g_iload hX d_T_besideIn_50 7 rfl ?_
      refine g_if_eq hX 68 d_T_besideIn_52 (by decide) h26 (fun h28 => ?_) (fun h29 => ?_)
      · refine g_iload hX d_T_besideIn_68 5 rfl ?_
        refine g_iload hX d_T_besideIn_70 0 rfl ?_
        refine g_callS hX [.int vq21] [.int vq1] mv_T_89 (c_J_bitCount X.2.1 Y vq21 σ _ rfl) (by decide) rfl rfl (Nat.le_of_ble_eq_true rfl) d_T_besideIn_72 (fun h30 => ?_)
        show Gd X Y 0 σ [(8, .int vq21), (0, .ref (adr Y t)), (1, .int x1), (2, .int x2), (3, .int x3), (4, .int vq1), (5, .int vq2), (6, .int vq3), (7, .int vq4)] 75 [.int (J_bitCount vq21), .int vq1]
        refine g_iadd hX d_T_besideIn_75 ?_
        refine g_istore hX (fun vq31 => [(4, .int vq31), (8, .int vq21), (0, .ref (adr Y t)), (1, .int x1), (2, .int x2), (3, .int x3), (5, .int vq2), (6, .int vq3), (7, .int vq4)]) d_T_besideIn_76 (by decide) (fun _ => rfl) h28 (fun vq31 h32 => ?_)
        refine g_sub (lv2 := [(0, .ref (adr Y t)), (1, .int x1), (2, .int x2), (3, .int x3), (4, .int vq31), (5, .int vq2), (6, .int vq3), (7, .int vq4)]) [2, 3, 4, 5, 0, 6, 7, 8] rfl ?_
        cases h32
        exact KJ24
      · refine g_iload hX d_T_besideIn_55 6 rfl ?_
        refine g_iload hX d_T_besideIn_57 0 rfl ?_
        refine g_callS hX [.int vq21] [.int vq2] mv_T_89 (c_J_bitCount X.2.1 Y vq21 σ _ rfl) (by decide) rfl rfl (Nat.le_of_ble_eq_true rfl) d_T_besideIn_59 (fun h36 => ?_)
        show Gd X Y 0 σ [(8, .int vq21), (0, .ref (adr Y t)), (1, .int x1), (2, .int x2), (3, .int x3), (4, .int vq1), (5, .int vq2), (6, .int vq3), (7, .int vq4)] 62 [.int (J_bitCount vq21), .int vq2]
        refine g_iadd hX d_T_besideIn_62 ?_
        refine g_istore hX (fun vq37 => [(5, .int vq37), (8, .int vq21), (0, .ref (adr Y t)), (1, .int x1), (2, .int x2), (3, .int x3), (4, .int vq1), (6, .int vq3), (7, .int vq4)]) d_T_besideIn_63 (by decide) (fun _ => rfl) h29 (fun vq37 h38 => ?_)
        refine g_goto hX 78 d_T_besideIn_65 (by decide) ?_
        refine g_sub (lv2 := [(0, .ref (adr Y t)), (1, .int x1), (2, .int x2), (3, .int x3), (4, .int vq1), (5, .int vq37), (6, .int vq3), (7, .int vq4)]) [2, 3, 4, 5, 6, 0, 7, 8] rfl ?_
        cases h38
        exact KJ24
    · refine g_iconst hX 1 d_T_besideIn_44 (by decide) ?_
      refine g_istoreV hX [(6, .int 1), (8, .int vq21), (0, .ref (adr Y t)), (1, .int x1), (2, .int x2), (3, .int x3), (4, .int vq1), (5, .int vq2), (7, .int vq4)] d_T_besideIn_45 (by decide) rfl ?_
      refine g_goto hX 78 d_T_besideIn_47 (by decide) ?_
      refine g_sub (lv2 := [(0, .ref (adr Y t)), (1, .int x1), (2, .int x2), (3, .int x3), (4, .int vq1), (5, .int vq2), (6, .int 1), (7, .int vq4)]) [2, 3, 4, 5, 6, 7, 0, 8] rfl ?_
      cases h27
      exact KJ24
noncomputable def T_betweenIn_b1 (t : Nat) (x1 : Int32) (x2 : Int32) (x3 : Int32) (σ : Mem) (vq1 : Int32) (vq2 : Int32) (vq3 : Int32) (vq4 : Int32) : Option ((Int32 × Int32 × Int32 × Int32) ⊕ (Int32 × Int32)) := (rd σ (t + 3) x1).bind (fun vq13 => if vq13 ≤ vq4 then some (.inr (vq1, vq2)) else (T_part t x1 vq4 σ).bind (fun vq17 => (rd σ (t + 2) vq17).bind (fun vq21 => lt (if (vq21 &&& (x2 ||| x3)) = 0 then lt (vq1 + (J_bitCount vq21)) (fun vq29 => lt (if vq3 = 1 then (J_bitCount vq21) else 0 : Int32) (fun vq36 => lt (vq2 + vq36) (fun vq38 => (vq29, vq38, vq3)))) else lt (vq3 + 1) (fun vq43 => (vq1, vq2, vq43)) : Int32 × Int32 × Int32) (fun q => lt q.1 (fun vq40 => lt q.2.1 (fun vq41 => lt q.2.2 (fun vq42 => lt (vq4 + 1) (fun vq45 => some (.inl (vq40, vq41, vq42, vq45))))))))))
noncomputable def T_betweenIn (t : Nat) (x1 : Int32) (x2 : Int32) (x3 : Int32) (x4 : Int32) (σ : Mem) : Option (Int32) := (lp (fun s => T_betweenIn_b1 t x1 x2 x3 σ s.1 s.2.1 s.2.2.1 s.2.2.2) fuel (0, 0, 0, 0)).bind (fun q => lt q.1 (fun vq5 => lt q.2 (fun vq6 => (rd σ (t + 1) x1).bind (fun vq47 => if vq47 = 0 then lt (if x4 = 0 then 0 else vq5 : Int32) (fun vq56 => some vq56) else some vq6))))
set_option maxHeartbeats 4000000 in
set_option maxRecDepth 100000 in
theorem c_T_betweenIn (l : Launch) (Y : Wx) (t : Nat) (x1 : Int32) (x2 : Int32) (x3 : Int32) (x4 : Int32) (ht : isT t) (σ : Mem) (o : Int32) (hf : T_betweenIn t x1 x2 x3 x4 σ = some o) : Ct l Y 0 y_T_betweenIn b_T_betweenIn 10 (some .int) 1 [.ref (adr Y t), .int x1, .int x2, .int x3, .int x4] σ (some (.int o)) σ := by
  unfold T_betweenIn at hf
  refine ct_of (by decide) (Nat.le_of_ble_eq_true rfl) rfl (fun X hXl hX hR => ?_)
  subst hXl
  have hX : Fx X Y 0 b_T_betweenIn 10 R_T 1 := hX
  refine g_iconst hX 0 d_T_betweenIn_0 (by decide) ?_
  refine g_istoreV hX [(5, .int 0), (0, .ref (adr Y t)), (1, .int x1), (2, .int x2), (3, .int x3), (4, .int x4)] d_T_betweenIn_1 (by decide) rfl ?_
  refine g_iconst hX 0 d_T_betweenIn_3 (by decide) ?_
  refine g_istoreV hX [(6, .int 0), (5, .int 0), (0, .ref (adr Y t)), (1, .int x1), (2, .int x2), (3, .int x3), (4, .int x4)] d_T_betweenIn_4 (by decide) rfl ?_
  refine g_iconst hX 0 d_T_betweenIn_6 (by decide) ?_
  refine g_istoreV hX [(7, .int 0), (6, .int 0), (5, .int 0), (0, .ref (adr Y t)), (1, .int x1), (2, .int x2), (3, .int x3), (4, .int x4)] d_T_betweenIn_7 (by decide) rfl ?_
  refine g_iconst hX 0 d_T_betweenIn_9 (by decide) ?_
  refine g_istoreV hX [(8, .int 0), (7, .int 0), (6, .int 0), (5, .int 0), (0, .ref (adr Y t)), (1, .int x1), (2, .int x2), (3, .int x3), (4, .int x4)] d_T_betweenIn_10 (by decide) rfl ?_
  obtain ⟨⟨vq5, vq6⟩, h10, h11⟩ := obind hf
  have h11 := lt2 h11
  have KX11 : Gd X Y 0 σ [(0, .ref (adr Y t)), (1, .int x1), (4, .int x4), (5, .int vq5), (6, .int vq6)] 88 [] := by
    refine g_aload_n hX d_T_betweenIn_88 0 rfl ?_
    refine g_getR hX (iwT ht) (shTt ht) rfl fl_T_11 d_T_betweenIn_89 ?_
    refine g_iload_n hX d_T_betweenIn_92 1 rfl ?_
    refine g_iaload hX (iwA1 ht) (shA1 ht) d_T_betweenIn_93 h11 (fun vq47 h48 => ?_)
    refine g_if_ne hX 109 d_T_betweenIn_94 (by decide) h48 (fun h49 => ?_) (fun h50 => ?_)
    · refine g_iload hX d_T_betweenIn_109 4 rfl ?_
      cases h49
      exact g_ireturn hX hR d_T_betweenIn_111
    · refine g_iload hX d_T_betweenIn_97 2 rfl ?_
      obtain ⟨vq56, h51, h52⟩ := ltex h50
      have KJ52 : Gd X Y 0 σ [] 108 [.int vq56] := by
        cases h52
        exact g_ireturn hX hR d_T_betweenIn_108
      refine g_if_eq hX 107 d_T_betweenIn_99 (by decide) h51 (fun h54 => ?_) (fun h55 => ?_)
      · refine g_iconst hX 0 d_T_betweenIn_107 (by decide) ?_
        refine g_sub (lv2 := []) [] rfl ?_
        cases h54
        exact KJ52
      · refine g_iload hX d_T_betweenIn_102 3 rfl ?_
        refine g_goto hX 108 d_T_betweenIn_104 (by decide) ?_
        refine g_sub (lv2 := []) [] rfl ?_
        cases h55
        exact KJ52
  refine g_sub (lv2 := [(0, .ref (adr Y t)), (1, .int x1), (2, .int x2), (3, .int x3), (4, .int x4), (5, .int 0), (6, .int 0), (7, .int 0), (8, .int 0)]) [4, 5, 6, 7, 8, 3, 2, 1, 0] rfl ?_
  refine g_loop (fun s => T_betweenIn_b1 t x1 x2 x3 σ s.1 s.2.1 s.2.2.1 s.2.2.2) (fun s => Gd X Y 0 σ [(0, .ref (adr Y t)), (1, .int x1), (2, .int x2), (3, .int x3), (4, .int x4), (5, .int s.1), (6, .int s.2.1), (7, .int s.2.2.1), (8, .int s.2.2.2)] 12 []) (vq5, vq6) ?_ fuel (0, 0, 0, 0) h10
  intro s y9 h9 h7 h8
  obtain ⟨vq1, vq2, vq3, vq4⟩ := s
  have h9 : T_betweenIn_b1 t x1 x2 x3 σ vq1 vq2 vq3 vq4 = some y9 := h9
  unfold T_betweenIn_b1 at h9
  show Gd X Y 0 σ [(0, .ref (adr Y t)), (1, .int x1), (2, .int x2), (3, .int x3), (4, .int x4), (5, .int vq1), (6, .int vq2), (7, .int vq3), (8, .int vq4)] 12 []
  refine g_iload hX d_T_betweenIn_12 8 rfl ?_
  refine g_aload_n hX d_T_betweenIn_14 0 rfl ?_
  refine g_getR hX (iwT ht) (shTt ht) rfl fl_T_18 d_T_betweenIn_15 ?_
  refine g_iload_n hX d_T_betweenIn_18 1 rfl ?_
  refine g_iaload hX (iwA3 ht) (shA3 ht) d_T_betweenIn_19 h9 (fun vq13 h14 => ?_)
  refine g_icmp_ge hX 88 d_T_betweenIn_20 (by decide) h14 (fun h15 => ?_) (fun h16 => ?_)
  · refine g_sub (lv2 := [(0, .ref (adr Y t)), (1, .int x1), (4, .int x4), (5, .int vq1), (6, .int vq2)]) [0, 1, 4, 5, 6] rfl ?_
    cases h15
    have h12 := h8 (vq1, vq2) rfl
    cases h12
    exact KX11
  · refine g_aload_n hX d_T_betweenIn_23 0 rfl ?_
    refine g_getR hX (iwT ht) (shTt ht) rfl fl_T_15 d_T_betweenIn_24 ?_
    refine g_aload_n hX d_T_betweenIn_27 0 rfl ?_
    refine g_iload_n hX d_T_betweenIn_28 1 rfl ?_
    refine g_iload hX d_T_betweenIn_29 8 rfl ?_
    obtain ⟨vq17, h18, h19⟩ := obind h16
    refine g_callV hX [.int x1, .int vq4] [.ref (adr Y (t + 2))] mv_T_73 (c_T_part X.2.1 Y t x1 vq4 ht σ _ h18) (by decide) (iwT ht) (shTt ht) rfl rfl rfl (Nat.le_of_ble_eq_true rfl) d_T_betweenIn_31 (fun h20 => ?_)
    show Gd X Y 0 σ [(0, .ref (adr Y t)), (1, .int x1), (2, .int x2), (3, .int x3), (4, .int x4), (5, .int vq1), (6, .int vq2), (7, .int vq3), (8, .int vq4)] 34 [.int vq17, .ref (adr Y (t + 2))]
    refine g_iaload hX (iwA2 ht) (shA2 ht) d_T_betweenIn_34 h19 (fun vq21 h22 => ?_)
    refine g_istoreV hX [(9, .int vq21), (0, .ref (adr Y t)), (1, .int x1), (2, .int x2), (3, .int x3), (4, .int x4), (5, .int vq1), (6, .int vq2), (7, .int vq3), (8, .int vq4)] d_T_betweenIn_35 (by decide) rfl ?_
    refine g_iload hX d_T_betweenIn_37 0 rfl ?_
    refine g_iload_n hX d_T_betweenIn_39 3 rfl ?_
    refine g_iload_n hX d_T_betweenIn_40 4 rfl ?_
    refine g_ior hX d_T_betweenIn_41 ?_
    refine g_iand hX d_T_betweenIn_42 ?_
    obtain ⟨⟨vq40, vq41, vq42⟩, h23, h24⟩ := ltex h22
    have h24 := lt3 h24
    have KJ24 : Gd X Y 0 σ [(0, .ref (adr Y t)), (1, .int x1), (2, .int x2), (3, .int x3), (4, .int x4), (5, .int vq40), (6, .int vq41), (7, .int vq42), (8, .int vq4)] 82 [] := by
      refine g_iinc hX (fun vq45 => [(8, .int vq45), (0, .ref (adr Y t)), (1, .int x1), (2, .int x2), (3, .int x3), (4, .int x4), (5, .int vq40), (6, .int vq41), (7, .int vq42)]) d_T_betweenIn_82 8 rfl rfl (by decide) (fun _ => rfl) h24 (fun vq45 h46 => ?_)
      refine g_goto hX 12 d_T_betweenIn_85 (by decide) ?_
      refine g_sub (lv2 := [(0, .ref (adr Y t)), (1, .int x1), (2, .int x2), (3, .int x3), (4, .int x4), (5, .int vq40), (6, .int vq41), (7, .int vq42), (8, .int vq45)]) [1, 2, 3, 4, 5, 6, 7, 8, 0] rfl ?_
      cases h46
      exact h7 (vq40, vq41, vq42, vq45) rfl
    refine g_if_eq hX 52 d_T_betweenIn_43 (by decide) h23 (fun h26 => ?_) (fun h27 => ?_)
    · refine g_iload hX d_T_betweenIn_52 6 rfl ?_
      refine g_iload hX d_T_betweenIn_54 0 rfl ?_
      refine g_callS hX [.int vq21] [.int vq1] mv_T_89 (c_J_bitCount X.2.1 Y vq21 σ _ rfl) (by decide) rfl rfl (Nat.le_of_ble_eq_true rfl) d_T_betweenIn_56 (fun h28 => ?_)
      show Gd X Y 0 σ [(9, .int vq21), (0, .ref (adr Y t)), (1, .int x1), (2, .int x2), (3, .int x3), (4, .int x4), (5, .int vq1), (6, .int vq2), (7, .int vq3), (8, .int vq4)] 59 [.int (J_bitCount vq21), .int vq1]
      refine g_iadd hX d_T_betweenIn_59 ?_
      refine g_istore hX (fun vq29 => [(5, .int vq29), (9, .int vq21), (0, .ref (adr Y t)), (1, .int x1), (2, .int x2), (3, .int x3), (4, .int x4), (6, .int vq2), (7, .int vq3), (8, .int vq4)]) d_T_betweenIn_60 (by decide) (fun _ => rfl) h26 (fun vq29 h30 => ?_)
      refine g_iload hX d_T_betweenIn_62 7 rfl ?_
      refine g_iload hX d_T_betweenIn_64 8 rfl ?_
      refine g_iconst hX 1 d_T_betweenIn_66 (by decide) ?_
      obtain ⟨vq36, h31, h32⟩ := ltex h30
      have KJ32 : Gd X Y 0 σ [(0, .ref (adr Y t)), (1, .int x1), (2, .int x2), (3, .int x3), (4, .int x4), (5, .int vq29), (7, .int vq3), (8, .int vq4)] 79 [.int vq36, .int vq2] := by
        refine g_iadd hX d_T_betweenIn_79 ?_
        refine g_istore hX (fun vq38 => [(6, .int vq38), (0, .ref (adr Y t)), (1, .int x1), (2, .int x2), (3, .int x3), (4, .int x4), (5, .int vq29), (7, .int vq3), (8, .int vq4)]) d_T_betweenIn_80 (by decide) (fun _ => rfl) h32 (fun vq38 h39 => ?_)
        refine g_sub (lv2 := [(0, .ref (adr Y t)), (1, .int x1), (2, .int x2), (3, .int x3), (4, .int x4), (5, .int vq29), (6, .int vq38), (7, .int vq3), (8, .int vq4)]) [1, 2, 3, 4, 5, 6, 0, 7, 8] rfl ?_
        cases h39
        exact KJ24
      refine g_icmp_ne hX 78 d_T_betweenIn_67 (by decide) h31 (fun h34 => ?_) (fun h35 => ?_)
      · refine g_iconst hX 0 d_T_betweenIn_78 (by decide) ?_
        refine g_sub (lv2 := [(0, .ref (adr Y t)), (1, .int x1), (2, .int x2), (3, .int x3), (4, .int x4), (5, .int vq29), (7, .int vq3), (8, .int vq4)]) [2, 3, 4, 5, 6, 0, 8, 9] rfl ?_
        cases h34
        exact KJ32
      · refine g_iload hX d_T_betweenIn_70 1 rfl ?_
        refine g_callS hX [.int vq21] [.int vq2] mv_T_89 (c_J_bitCount X.2.1 Y vq21 σ _ rfl) (by decide) rfl rfl (Nat.le_of_ble_eq_true rfl) d_T_betweenIn_72 (fun h37 => ?_)
        show Gd X Y 0 σ [(5, .int vq29), (9, .int vq21), (0, .ref (adr Y t)), (1, .int x1), (2, .int x2), (3, .int x3), (4, .int x4), (6, .int vq2), (7, .int vq3), (8, .int vq4)] 75 [.int (J_bitCount vq21), .int vq2]
        refine g_goto hX 79 d_T_betweenIn_75 (by decide) ?_
        refine g_sub (lv2 := [(0, .ref (adr Y t)), (1, .int x1), (2, .int x2), (3, .int x3), (4, .int x4), (5, .int vq29), (7, .int vq3), (8, .int vq4)]) [2, 3, 4, 5, 6, 0, 8, 9] rfl ?_
        cases h35
        exact KJ32
    · refine g_iinc hX (fun vq43 => [(7, .int vq43), (9, .int vq21), (0, .ref (adr Y t)), (1, .int x1), (2, .int x2), (3, .int x3), (4, .int x4), (5, .int vq1), (6, .int vq2), (8, .int vq4)]) d_T_betweenIn_46 8 rfl rfl (by decide) (fun _ => rfl) h27 (fun vq43 h44 => ?_)
      refine g_goto hX 82 d_T_betweenIn_49 (by decide) ?_
      refine g_sub (lv2 := [(0, .ref (adr Y t)), (1, .int x1), (2, .int x2), (3, .int x3), (4, .int x4), (5, .int vq1), (6, .int vq2), (7, .int vq43), (8, .int vq4)]) [2, 3, 4, 5, 6, 7, 8, 0, 9] rfl ?_
      cases h44
      exact KJ24
noncomputable def T_between_b1 (t : Nat) (x3 : Int32) (σ : Mem) (vq5 : Int32) (vq9 : Int32) (vq10 : Int32) (vq11 : Int32) : Option ((Int32 × Int32 × Int32) ⊕ (Int32 × Int32)) := if (8 + (σ t 5)) ≤ vq11 then some (.inr (vq9, vq10)) else (rd σ (t + 2) vq11).bind (fun vq22 => lt (vq22 &&& vq5) (fun vq24 => ((if vq24 = vq5 then some (vq11, vq10) else if vq24 = 0 then some (vq9, vq10) else (T_besideIn t vq11 vq24 x3 σ).bind (fun vq35 => lt (vq10 + vq35) (fun vq39 => some (vq9, vq39))) : Option (Int32 × Int32))).bind (fun q => lt q.1 (fun vq33 => lt q.2 (fun vq34 => lt (vq11 + 1) (fun vq41 => some (.inl (vq33, vq34, vq41))))))))
noncomputable def T_between (t : Nat) (x1 : Int32) (x2 : Int32) (x3 : Int32) (σ : Mem) : Option (Int32) := (rd σ (t + 2) x1).bind (fun vq1 => (rd σ (t + 2) x2).bind (fun vq3 => lt (vq1 ||| vq3) (fun vq5 => lt (σ t 4) (fun vq7 => (lp (fun s => T_between_b1 t x3 σ vq5 s.1 s.2.1 s.2.2) fuel (vq7, 0, 8)).bind (fun q => lt q.1 (fun vq12 => lt q.2 (fun vq13 => (rd σ (t + 2) x1).bind (fun vq43 => (rd σ (t + 2) x2).bind (fun vq45 => (T_betweenIn t vq12 vq43 vq45 x3 σ).bind (fun vq47 => some (vq13 + vq47)))))))))))
set_option maxHeartbeats 4000000 in
set_option maxRecDepth 100000 in
theorem c_T_between (l : Launch) (Y : Wx) (t : Nat) (x1 : Int32) (x2 : Int32) (x3 : Int32) (ht : isT t) (σ : Mem) (o : Int32) (hf : T_between t x1 x2 x3 σ = some o) : Ct l Y 0 y_T_between b_T_between 9 (some .int) 2 [.ref (adr Y t), .int x1, .int x2, .int x3] σ (some (.int o)) σ := by
  unfold T_between at hf
  refine ct_of (by decide) (Nat.le_of_ble_eq_true rfl) rfl (fun X hXl hX hR => ?_)
  subst hXl
  have hX : Fx X Y 0 b_T_between 9 R_T 2 := hX
  refine g_aload_n hX d_T_between_0 0 rfl ?_
  refine g_getR hX (iwT ht) (shTt ht) rfl fl_T_15 d_T_between_1 ?_
  refine g_iload_n hX d_T_between_4 1 rfl ?_
  refine g_iaload hX (iwA2 ht) (shA2 ht) d_T_between_5 hf (fun vq1 h2 => ?_)
  refine g_aload_n hX d_T_between_6 0 rfl ?_
  refine g_getR hX (iwT ht) (shTt ht) rfl fl_T_15 d_T_between_7 ?_
  refine g_iload_n hX d_T_between_10 2 rfl ?_
  refine g_iaload hX (iwA2 ht) (shA2 ht) d_T_between_11 h2 (fun vq3 h4 => ?_)
  refine g_ior hX d_T_between_12 ?_
  refine g_istore hX (fun vq5 => [(4, .int vq5), (0, .ref (adr Y t)), (1, .int x1), (2, .int x2), (3, .int x3)]) d_T_between_13 (by decide) (fun _ => rfl) h4 (fun vq5 h6 => ?_)
  refine g_aload_n hX d_T_between_15 1 rfl ?_
  refine g_getI hX (iwT ht) (shTt ht) rfl fl_T_24.f d_T_between_16 ?_
  refine g_istore hX (fun vq7 => [(5, .int vq7), (4, .int vq5), (0, .ref (adr Y t)), (1, .int x1), (2, .int x2), (3, .int x3)]) d_T_between_19 (by decide) (fun _ => rfl) h6 (fun vq7 h8 => ?_)
  refine g_iconst hX 0 d_T_between_21 (by decide) ?_
  refine g_istoreV hX [(6, .int 0), (5, .int vq7), (4, .int vq5), (0, .ref (adr Y t)), (1, .int x1), (2, .int x2), (3, .int x3)] d_T_between_22 (by decide) rfl ?_
  refine g_bipush hX 8 d_T_between_24 (by decide) ?_
  refine g_istoreV hX [(7, .int 8), (6, .int 0), (5, .int vq7), (4, .int vq5), (0, .ref (adr Y t)), (1, .int x1), (2, .int x2), (3, .int x3)] d_T_between_26 (by decide) rfl ?_
  obtain ⟨⟨vq12, vq13⟩, h17, h18⟩ := obind h8
  have h18 := lt2 h18
  have KX18 : Gd X Y 0 σ [(0, .ref (adr Y t)), (1, .int x1), (2, .int x2), (3, .int x3), (5, .int vq12), (6, .int vq13)] 91 [] := by
    refine g_iload hX d_T_between_91 5 rfl ?_
    refine g_aload_n hX d_T_between_93 0 rfl ?_
    refine g_iload hX d_T_between_94 4 rfl ?_
    refine g_aload_n hX d_T_between_96 0 rfl ?_
    refine g_getR hX (iwT ht) (shTt ht) rfl fl_T_15 d_T_between_97 ?_
    refine g_iload_n hX d_T_between_100 1 rfl ?_
    refine g_iaload hX (iwA2 ht) (shA2 ht) d_T_between_101 h18 (fun vq43 h44 => ?_)
    refine g_aload_n hX d_T_between_102 0 rfl ?_
    refine g_getR hX (iwT ht) (shTt ht) rfl fl_T_15 d_T_between_103 ?_
    refine g_iload_n hX d_T_between_106 2 rfl ?_
    refine g_iaload hX (iwA2 ht) (shA2 ht) d_T_between_107 h44 (fun vq45 h46 => ?_)
    refine g_iload_n hX d_T_between_108 3 rfl ?_
    obtain ⟨vq47, h48, h49⟩ := obind h46
    refine g_callV hX [.int vq12, .int vq43, .int vq45, .int x3] [.int vq13] mv_T_175 (c_T_betweenIn X.2.1 Y t vq12 vq43 vq45 x3 ht σ _ h48) (by decide) (iwT ht) (shTt ht) rfl rfl rfl (Nat.le_of_ble_eq_true rfl) d_T_between_109 (fun h50 => ?_)
    show Gd X Y 0 σ [(0, .ref (adr Y t)), (1, .int x1), (2, .int x2), (3, .int x3), (5, .int vq12), (6, .int vq13)] 112 [.int vq47, .int vq13]
    refine g_iadd hX d_T_between_112 ?_
    cases h49
    exact g_ireturn hX hR d_T_between_113
  refine g_sub (lv2 := [(0, .ref (adr Y t)), (1, .int x1), (2, .int x2), (3, .int x3), (4, .int vq5), (5, .int vq7), (6, .int 0), (7, .int 8)]) [4, 5, 6, 7, 3, 2, 1, 0] rfl ?_
  refine g_loop (fun s => T_between_b1 t x3 σ vq5 s.1 s.2.1 s.2.2) (fun s => Gd X Y 0 σ [(0, .ref (adr Y t)), (1, .int x1), (2, .int x2), (3, .int x3), (4, .int vq5), (5, .int s.1), (6, .int s.2.1), (7, .int s.2.2)] 28 []) (vq12, vq13) ?_ fuel (vq7, 0, 8) h17
  intro s y16 h16 h14 h15
  obtain ⟨vq9, vq10, vq11⟩ := s
  have h16 : T_between_b1 t x3 σ vq5 vq9 vq10 vq11 = some y16 := h16
  unfold T_between_b1 at h16
  show Gd X Y 0 σ [(0, .ref (adr Y t)), (1, .int x1), (2, .int x2), (3, .int x3), (4, .int vq5), (5, .int vq9), (6, .int vq10), (7, .int vq11)] 28 []
  refine g_iload hX d_T_between_28 7 rfl ?_
  refine g_bipush hX 8 d_T_between_30 (by decide) ?_
  refine g_aload_n hX d_T_between_32 0 rfl ?_
  refine g_getI hX (iwT ht) (shTt ht) rfl fl_T_28.f d_T_between_33 ?_
  refine g_iadd hX d_T_between_36 ?_
  refine g_icmp_ge hX 91 d_T_between_37 (by decide) h16 (fun h20 => ?_) (fun h21 => ?_)
  · refine g_sub (lv2 := [(0, .ref (adr Y t)), (1, .int x1), (2, .int x2), (3, .int x3), (5, .int vq9), (6, .int vq10)]) [0, 1, 2, 3, 5, 6] rfl ?_
    cases h20
    have h19 := h15 (vq9, vq10) rfl
    cases h19
    exact KX18
  · refine g_aload_n hX d_T_between_40 0 rfl ?_
    refine g_getR hX (iwT ht) (shTt ht) rfl fl_T_15 d_T_between_41 ?_
    refine g_iload hX d_T_between_44 7 rfl ?_
    refine g_iaload hX (iwA2 ht) (shA2 ht) d_T_between_46 h21 (fun vq22 h23 => ?_)
    refine g_iload hX d_T_between_47 4 rfl ?_
    refine g_iand hX d_T_between_49 ?_
    refine g_istore hX (fun vq24 => [(8, .int vq24), (0, .ref (adr Y t)), (1, .int x1), (2, .int x2), (3, .int x3), (4, .int vq5), (5, .int vq9), (6, .int vq10), (7, .int vq11)]) d_T_between_50 (by decide) (fun _ => rfl) h23 (fun vq24 h25 => ?_)
    refine g_iload hX d_T_between_52 0 rfl ?_
    refine g_iload hX d_T_between_54 5 rfl ?_
    obtain ⟨⟨vq33, vq34⟩, h26, h27⟩ := obind h25
    have h27 := lt2 h27
    have KJ27 : Gd X Y 0 σ [(0, .ref (adr Y t)), (1, .int x1), (2, .int x2), (3, .int x3), (4, .int vq5), (5, .int vq33), (6, .int vq34), (7, .int vq11)] 85 [] := by
      refine g_iinc hX (fun vq41 => [(7, .int vq41), (0, .ref (adr Y t)), (1, .int x1), (2, .int x2), (3, .int x3), (4, .int vq5), (5, .int vq33), (6, .int vq34)]) d_T_between_85 7 rfl rfl (by decide) (fun _ => rfl) h27 (fun vq41 h42 => ?_)
      refine g_goto hX 28 d_T_between_88 (by decide) ?_
      refine g_sub (lv2 := [(0, .ref (adr Y t)), (1, .int x1), (2, .int x2), (3, .int x3), (4, .int vq5), (5, .int vq33), (6, .int vq34), (7, .int vq41)]) [1, 2, 3, 4, 5, 6, 7, 0] rfl ?_
      cases h42
      exact h14 (vq33, vq34, vq41) rfl
    refine g_icmp_ne hX 66 d_T_between_56 (by decide) h26 (fun h29 => ?_) (fun h30 => ?_)
    · refine g_iload hX d_T_between_66 0 rfl ?_
      refine g_if_eq hX 85 d_T_between_68 (by decide) h29 (fun h31 => ?_) (fun h32 => ?_)
      · refine g_sub (lv2 := [(0, .ref (adr Y t)), (1, .int x1), (2, .int x2), (3, .int x3), (4, .int vq5), (5, .int vq9), (6, .int vq10), (7, .int vq11)]) [1, 2, 3, 4, 5, 6, 7, 8] rfl ?_
        cases h31
        exact KJ27
      · refine g_iload hX d_T_between_71 7 rfl ?_
        refine g_aload_n hX d_T_between_73 1 rfl ?_
        refine g_iload hX d_T_between_74 8 rfl ?_
        refine g_iload hX d_T_between_76 0 rfl ?_
        refine g_iload_n hX d_T_between_78 4 rfl ?_
        obtain ⟨vq35, h36, h37⟩ := obind h32
        refine g_callV hX [.int vq11, .int vq24, .int x3] [.int vq10] mv_T_171 (c_T_besideIn X.2.1 Y t vq11 vq24 x3 ht σ _ h36) (by decide) (iwT ht) (shTt ht) rfl rfl rfl (Nat.le_of_ble_eq_true rfl) d_T_between_79 (fun h38 => ?_)
        show Gd X Y 0 σ [(8, .int vq24), (0, .ref (adr Y t)), (1, .int x1), (2, .int x2), (3, .int x3), (4, .int vq5), (5, .int vq9), (6, .int vq10), (7, .int vq11)] 82 [.int vq35, .int vq10]
        refine g_iadd hX d_T_between_82 ?_
        refine g_istore hX (fun vq39 => [(6, .int vq39), (8, .int vq24), (0, .ref (adr Y t)), (1, .int x1), (2, .int x2), (3, .int x3), (4, .int vq5), (5, .int vq9), (7, .int vq11)]) d_T_between_83 (by decide) (fun _ => rfl) h37 (fun vq39 h40 => ?_)
        refine g_sub (lv2 := [(0, .ref (adr Y t)), (1, .int x1), (2, .int x2), (3, .int x3), (4, .int vq5), (5, .int vq9), (6, .int vq39), (7, .int vq11)]) [2, 3, 4, 5, 6, 7, 0, 8] rfl ?_
        cases h40
        exact KJ27
    · refine g_iload hX d_T_between_59 8 rfl ?_
      refine g_istoreV hX [(5, .int vq11), (8, .int vq24), (0, .ref (adr Y t)), (1, .int x1), (2, .int x2), (3, .int x3), (4, .int vq5), (6, .int vq10), (7, .int vq11)] d_T_between_61 (by decide) rfl ?_
      refine g_goto hX 85 d_T_between_63 (by decide) ?_
      refine g_sub (lv2 := [(0, .ref (adr Y t)), (1, .int x1), (2, .int x2), (3, .int x3), (4, .int vq5), (5, .int vq11), (6, .int vq10), (7, .int vq11)]) [2, 3, 4, 5, 6, 0, 7, 8] rfl ?_
      cases h30
      exact KJ27
noncomputable def O_takeGroup (x1 : Int32) (σ : Mem) : Option (Mem) := lt (1 <<< (x1 &&& 31)) (fun vq1 => lt (mput σ 0 3 ((σ 0 3) &&& (vq1 ^^^ (-1)))) (fun σ3 => (T_draw 32 10 σ3).bind (fun σ5 => (rd σ5 1 x1).bind (fun vq9 => (T_reduce 32 vq9 σ5).bind (fun q => lt q.1 (fun vq11 => lt q.2 (fun σ12 => ((if vq11 = 0 then some σ12 else (T_draw 10 32 σ12).bind (fun σ22 => lt (mput σ22 0 3 ((σ22 0 3) ||| vq1)) (fun σ26 => some σ26)) : Option (Mem))).bind (fun σ21 => some σ21))))))))
set_option maxHeartbeats 4000000 in
set_option maxRecDepth 100000 in
theorem c_O_takeGroup (l : Launch) (Y : Wx) (x1 : Int32)  (σ : Mem) (o : Mem) (hf : O_takeGroup x1 σ = some o) : Ct l Y 0 y_O_takeGroup b_O_takeGroup 3 none 28 [.ref (adr Y 0), .int x1] σ none o := by
  unfold O_takeGroup at hf
  refine ct_of (by decide) (Nat.le_of_ble_eq_true rfl) rfl (fun X hXl hX hR => ?_)
  subst hXl
  have hX : Fx X Y 0 b_O_takeGroup 3 R_O 28 := hX
  refine g_iconst hX 1 d_O_takeGroup_0 (by decide) ?_
  refine g_iload_n hX d_O_takeGroup_1 1 rfl ?_
  refine g_ishl hX d_O_takeGroup_2 ?_
  refine g_istore_n hX (fun vq1 => [(2, .int vq1), (0, .ref (adr Y 0)), (1, .int x1)]) d_O_takeGroup_3 (by decide) (fun _ => rfl) hf (fun vq1 h2 => ?_)
  refine g_aload_n hX d_O_takeGroup_4 1 rfl ?_
  refine g_dup hX d_O_takeGroup_5 rfl ?_
  refine g_getI hX iw_0 sh_0 rfl fl_O_20.f d_O_takeGroup_6 ?_
  refine g_iload_n hX d_O_takeGroup_9 0 rfl ?_
  refine g_iconst hX (-1) d_O_takeGroup_10 (by decide) ?_
  refine g_ixor hX d_O_takeGroup_11 ?_
  refine g_iand hX d_O_takeGroup_12 ?_
  refine g_putI hX iw_0 sh_0 rfl fl_O_20 d_O_takeGroup_13 h2 (fun σ3 h4 => ?_)
  refine g_aload_n hX d_O_takeGroup_16 1 rfl ?_
  refine g_getR hX iw_0 sh_0 rfl fl_O_55 d_O_takeGroup_17 ?_
  refine g_aload_n hX d_O_takeGroup_20 1 rfl ?_
  refine g_getR hX iw_0 sh_0 rfl fl_O_42 d_O_takeGroup_21 ?_
  obtain ⟨σ5, h6, h7⟩ := obind h4
  refine g_callV hX [.ref (adr Y 10)] [] mv_O_100 (c_T_draw X.2.1 Y 32 10 isT_32 isT_10 σ3 _ h6) (by decide) iw_32 sh_32 rfl rfl rfl (Nat.le_of_ble_eq_true rfl) d_O_takeGroup_24 (fun h8 => ?_)
  show Gd X Y 0 σ5 [(2, .int vq1), (0, .ref (adr Y 0)), (1, .int x1)] 27 []
  refine g_aload_n hX d_O_takeGroup_27 1 rfl ?_
  refine g_getR hX iw_0 sh_0 rfl fl_O_55 d_O_takeGroup_28 ?_
  refine g_aload_n hX d_O_takeGroup_31 1 rfl ?_
  refine g_getR hX iw_0 sh_0 rfl fl_O_13 d_O_takeGroup_32 ?_
  refine g_iload_n hX d_O_takeGroup_35 2 rfl ?_
  refine g_iaload hX iw_1 sh_1 d_O_takeGroup_36 h7 (fun vq9 h10 => ?_)
  obtain ⟨⟨vq11, σ12⟩, h13, h14⟩ := obind h10
  have h14 := lt2 h14
  refine g_callV hX [.int vq9] [] mv_O_97 (c_T_reduce X.2.1 Y 32 vq9 isT_32 σ5 _ h13) (by decide) iw_32 sh_32 rfl rfl rfl (Nat.le_of_ble_eq_true rfl) d_O_takeGroup_37 (fun h15 => ?_)
  show Gd X Y 0 σ12 [(2, .int vq1), (0, .ref (adr Y 0)), (1, .int x1)] 40 [.int vq11]
  obtain ⟨σ21, h16, h17⟩ := obind h14
  have KJ17 : Gd X Y 0 σ21 [] 64 [] := by
    cases h17
    exact g_return hX hR d_O_takeGroup_64
  refine g_if_eq hX 64 d_O_takeGroup_40 (by decide) h16 (fun h19 => ?_) (fun h20 => ?_)
  · refine g_sub (lv2 := []) [] rfl ?_
    cases h19
    exact KJ17
  · refine g_aload_n hX d_O_takeGroup_43 1 rfl ?_
    refine g_getR hX iw_0 sh_0 rfl fl_O_42 d_O_takeGroup_44 ?_
    refine g_aload_n hX d_O_takeGroup_47 1 rfl ?_
    refine g_getR hX iw_0 sh_0 rfl fl_O_55 d_O_takeGroup_48 ?_
    obtain ⟨σ22, h23, h24⟩ := obind h20
    refine g_callV hX [.ref (adr Y 32)] [] mv_O_100 (c_T_draw X.2.1 Y 10 32 isT_10 isT_32 σ12 _ h23) (by decide) iw_10 sh_10 rfl rfl rfl (Nat.le_of_ble_eq_true rfl) d_O_takeGroup_51 (fun h25 => ?_)
    show Gd X Y 0 σ22 [(2, .int vq1), (0, .ref (adr Y 0)), (1, .int x1)] 54 []
    refine g_aload_n hX d_O_takeGroup_54 1 rfl ?_
    refine g_dup hX d_O_takeGroup_55 rfl ?_
    refine g_getI hX iw_0 sh_0 rfl fl_O_20.f d_O_takeGroup_56 ?_
    refine g_iload_n hX d_O_takeGroup_59 0 rfl ?_
    refine g_ior hX d_O_takeGroup_60 ?_
    refine g_putI hX iw_0 sh_0 rfl fl_O_20 d_O_takeGroup_61 h24 (fun σ26 h27 => ?_)
    refine g_sub (lv2 := []) [] rfl ?_
    cases h27
    exact KJ17
