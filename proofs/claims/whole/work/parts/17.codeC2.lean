noncomputable def T_lowestWith_b1 (t : Nat) (x1 : Int32) (σ : Mem) (vq3 : Int32) (vq14 : Int32) (vq15 : Int32) : Option ((Int32 × Int32) ⊕ (Int32)) := (rd σ (t + 3) vq3).bind (fun vq23 => if vq23 ≤ vq15 then some (.inr vq14) else (T_part t vq3 vq15 σ).bind (fun vq27 => (rd σ (t + 2) vq27).bind (fun vq31 => ((if (x1 &&& (vq31 ^^^ (-1))) = 0 then (T_part t vq3 vq15 σ).bind (fun vq39 => some vq39) else some vq14 : Option (Int32))).bind (fun vq38 => lt (vq15 + 1) (fun vq43 => some (.inl (vq38, vq43)))))))
noncomputable def T_lowestWith_b2 (t : Nat) (x1 : Int32) (σ : Mem) (vq3 : Int32) (vq4 : Int32) : Option ((Int32 × Int32) ⊕ ((Int32) ⊕ (Int32))) := if 8 ≤ vq4 then some (.inr (.inl vq3)) else (lp (fun s => T_lowestWith_b1 t x1 σ vq3 s.1 s.2) fuel ((-1), 0)).bind (fun vq16 => if vq16 = (-1) then some (.inr (.inl vq3)) else lt (vq4 + 1) (fun vq47 => some (.inl (vq16, vq47))))
noncomputable def T_lowestWith (t : Nat) (x1 : Int32) (σ : Mem) : Option (Int32) := lt (σ t 4) (fun vq1 => (lp (fun s => T_lowestWith_b2 t x1 σ s.1 s.2) fuel (vq1, 0)).bind (fun x => Sum.elim (fun vq5 => some vq5) (fun z => some z) x))
set_option maxHeartbeats 4000000 in
set_option maxRecDepth 100000 in
theorem c_T_lowestWith (l : Launch) (Y : Wx) (t : Nat) (x1 : Int32) (ht : isT t) (σ : Mem) (o : Int32) (hf : T_lowestWith t x1 σ = some o) : Ct l Y 0 y_T_lowestWith b_T_lowestWith 6 (some .int) 1 [.ref (adr Y t), .int x1] σ (some (.int o)) σ := by
  unfold T_lowestWith at hf
  refine ct_of (by decide) (Nat.le_of_ble_eq_true rfl) rfl (fun X hXl hX hR => ?_)
  subst hXl
  have hX : Fx X Y 0 b_T_lowestWith 6 R_T 1 := hX
  refine g_aload_n hX d_T_lowestWith_0 0 rfl ?_
  refine g_getI hX (iwT ht) (shTt ht) rfl fl_T_24.f d_T_lowestWith_1 ?_
  refine g_istore_n hX (fun vq1 => [(2, .int vq1), (0, .ref (adr Y t)), (1, .int x1)]) d_T_lowestWith_4 (by decide) (fun _ => rfl) hf (fun vq1 h2 => ?_)
  refine g_iconst hX 0 d_T_lowestWith_5 (by decide) ?_
  refine g_istore_nV hX [(3, .int 0), (2, .int vq1), (0, .ref (adr Y t)), (1, .int x1)] d_T_lowestWith_6 (by decide) rfl ?_
  obtain ⟨h9x, h9, h10⟩ := obind h2
  have KX10 : ∀ (vq5 : Int32) , h9x = .inl vq5 → Gd X Y 0 σ [(2, .int vq5)] 82 [] := by
    intro vq5 h11
    subst h11
    dsimp only [Sum.elim_inl] at h10
    refine g_iload_n hX d_T_lowestWith_82 0 rfl ?_
    cases h10
    exact g_ireturn hX hR d_T_lowestWith_83
  refine g_sub (lv2 := [(0, .ref (adr Y t)), (1, .int x1), (2, .int vq1), (3, .int 0)]) [2, 3, 1, 0] rfl ?_
  refine g_loop (fun s => T_lowestWith_b2 t x1 σ s.1 s.2) (fun s => Gd X Y 0 σ [(0, .ref (adr Y t)), (1, .int x1), (2, .int s.1), (3, .int s.2)] 7 []) h9x ?_ fuel (vq1, 0) h9
  intro s y8 h8 h6 h7
  obtain ⟨vq3, vq4⟩ := s
  have h8 : T_lowestWith_b2 t x1 σ vq3 vq4 = some y8 := h8
  unfold T_lowestWith_b2 at h8
  show Gd X Y 0 σ [(0, .ref (adr Y t)), (1, .int x1), (2, .int vq3), (3, .int vq4)] 7 []
  refine g_iload_n hX d_T_lowestWith_7 3 rfl ?_
  refine g_bipush hX 8 d_T_lowestWith_8 (by decide) ?_
  refine g_icmp_ge hX 82 d_T_lowestWith_10 (by decide) h8 (fun h12 => ?_) (fun h13 => ?_)
  · refine g_sub (lv2 := [(2, .int vq3)]) [2] rfl ?_
    cases h12
    exact KX10 vq3 (h7 (.inl vq3) rfl).symm
  · refine g_iconst hX (-1) d_T_lowestWith_13 (by decide) ?_
    refine g_istoreV hX [(4, .int (-1)), (0, .ref (adr Y t)), (1, .int x1), (2, .int vq3), (3, .int vq4)] d_T_lowestWith_14 (by decide) rfl ?_
    refine g_iconst hX 0 d_T_lowestWith_16 (by decide) ?_
    refine g_istoreV hX [(5, .int 0), (4, .int (-1)), (0, .ref (adr Y t)), (1, .int x1), (2, .int vq3), (3, .int vq4)] d_T_lowestWith_17 (by decide) rfl ?_
    obtain ⟨vq16, h20, h21⟩ := obind h13
    have KX21 : Gd X Y 0 σ [(0, .ref (adr Y t)), (1, .int x1), (2, .int vq3), (3, .int vq4), (4, .int vq16)] 64 [] := by
      refine g_iload hX d_T_lowestWith_64 4 rfl ?_
      refine g_iconst hX (-1) d_T_lowestWith_66 (by decide) ?_
      refine g_icmp_ne hX 73 d_T_lowestWith_67 (by decide) h21 (fun h45 => ?_) (fun h46 => ?_)
      · refine g_iload hX d_T_lowestWith_73 4 rfl ?_
        refine g_istore_nV hX [(2, .int vq16), (0, .ref (adr Y t)), (1, .int x1), (3, .int vq4), (4, .int vq16)] d_T_lowestWith_75 (by decide) rfl ?_
        refine g_iinc hX (fun vq47 => [(3, .int vq47), (2, .int vq16), (0, .ref (adr Y t)), (1, .int x1), (4, .int vq16)]) d_T_lowestWith_76 3 rfl rfl (by decide) (fun _ => rfl) h45 (fun vq47 h48 => ?_)
        refine g_goto hX 7 d_T_lowestWith_79 (by decide) ?_
        refine g_sub (lv2 := [(0, .ref (adr Y t)), (1, .int x1), (2, .int vq16), (3, .int vq47)]) [2, 3, 1, 0] rfl ?_
        cases h48
        exact h6 (vq16, vq47) rfl
      · refine g_goto hX 82 d_T_lowestWith_70 (by decide) ?_
        refine g_sub (lv2 := [(2, .int vq3)]) [2] rfl ?_
        cases h46
        exact KX10 vq3 (h7 (.inl vq3) rfl).symm
    refine g_sub (lv2 := [(0, .ref (adr Y t)), (1, .int x1), (2, .int vq3), (3, .int vq4), (4, .int (-1)), (5, .int 0)]) [2, 3, 4, 5, 1, 0] rfl ?_
    refine g_loop (fun s => T_lowestWith_b1 t x1 σ vq3 s.1 s.2) (fun s => Gd X Y 0 σ [(0, .ref (adr Y t)), (1, .int x1), (2, .int vq3), (3, .int vq4), (4, .int s.1), (5, .int s.2)] 19 []) vq16 ?_ fuel ((-1), 0) h20
    intro s y19 h19 h17 h18
    obtain ⟨vq14, vq15⟩ := s
    have h19 : T_lowestWith_b1 t x1 σ vq3 vq14 vq15 = some y19 := h19
    unfold T_lowestWith_b1 at h19
    show Gd X Y 0 σ [(0, .ref (adr Y t)), (1, .int x1), (2, .int vq3), (3, .int vq4), (4, .int vq14), (5, .int vq15)] 19 []
    refine g_iload hX d_T_lowestWith_19 5 rfl ?_
    refine g_aload_n hX d_T_lowestWith_21 0 rfl ?_
    refine g_getR hX (iwT ht) (shTt ht) rfl fl_T_18 d_T_lowestWith_22 ?_
    refine g_iload_n hX d_T_lowestWith_25 2 rfl ?_
    refine g_iaload hX (iwA3 ht) (shA3 ht) d_T_lowestWith_26 h19 (fun vq23 h24 => ?_)
    refine g_icmp_ge hX 64 d_T_lowestWith_27 (by decide) h24 (fun h25 => ?_) (fun h26 => ?_)
    · refine g_sub (lv2 := [(0, .ref (adr Y t)), (1, .int x1), (2, .int vq3), (3, .int vq4), (4, .int vq14)]) [0, 1, 2, 3, 4] rfl ?_
      cases h25
      have h22 := h18 vq14 rfl
      cases h22
      exact KX21
    · refine g_iload_n hX d_T_lowestWith_30 1 rfl ?_
      refine g_aload_n hX d_T_lowestWith_31 0 rfl ?_
      refine g_getR hX (iwT ht) (shTt ht) rfl fl_T_15 d_T_lowestWith_32 ?_
      refine g_aload_n hX d_T_lowestWith_35 0 rfl ?_
      refine g_iload_n hX d_T_lowestWith_36 2 rfl ?_
      refine g_iload hX d_T_lowestWith_37 5 rfl ?_
      obtain ⟨vq27, h28, h29⟩ := obind h26
      refine g_callV hX [.int vq3, .int vq15] [.ref (adr Y (t + 2)), .int x1] mv_T_73 (c_T_part X.2.1 Y t vq3 vq15 ht σ _ h28) (by decide) (iwT ht) (shTt ht) rfl rfl rfl (Nat.le_of_ble_eq_true rfl) d_T_lowestWith_39 (fun h30 => ?_)
      show Gd X Y 0 σ [(0, .ref (adr Y t)), (1, .int x1), (2, .int vq3), (3, .int vq4), (4, .int vq14), (5, .int vq15)] 42 [.int vq27, .ref (adr Y (t + 2)), .int x1]
      refine g_iaload hX (iwA2 ht) (shA2 ht) d_T_lowestWith_42 h29 (fun vq31 h32 => ?_)
      refine g_iconst hX (-1) d_T_lowestWith_43 (by decide) ?_
      refine g_ixor hX d_T_lowestWith_44 ?_
      refine g_iand hX d_T_lowestWith_45 ?_
      obtain ⟨vq38, h33, h34⟩ := obind h32
      have KJ34 : Gd X Y 0 σ [(0, .ref (adr Y t)), (1, .int x1), (2, .int vq3), (3, .int vq4), (4, .int vq38), (5, .int vq15)] 58 [] := by
        refine g_iinc hX (fun vq43 => [(5, .int vq43), (0, .ref (adr Y t)), (1, .int x1), (2, .int vq3), (3, .int vq4), (4, .int vq38)]) d_T_lowestWith_58 5 rfl rfl (by decide) (fun _ => rfl) h34 (fun vq43 h44 => ?_)
        refine g_goto hX 19 d_T_lowestWith_61 (by decide) ?_
        refine g_sub (lv2 := [(0, .ref (adr Y t)), (1, .int x1), (2, .int vq3), (3, .int vq4), (4, .int vq38), (5, .int vq43)]) [1, 2, 3, 4, 5, 0] rfl ?_
        cases h44
        exact h17 (vq38, vq43) rfl
      refine g_if_ne hX 58 d_T_lowestWith_46 (by decide) h33 (fun h36 => ?_) (fun h37 => ?_)
      · refine g_sub (lv2 := [(0, .ref (adr Y t)), (1, .int x1), (2, .int vq3), (3, .int vq4), (4, .int vq14), (5, .int vq15)]) [0, 1, 2, 3, 4, 5] rfl ?_
        cases h36
        exact KJ34
      · refine g_aload_n hX d_T_lowestWith_49 0 rfl ?_
        refine g_iload_n hX d_T_lowestWith_50 2 rfl ?_
        refine g_iload hX d_T_lowestWith_51 5 rfl ?_
        obtain ⟨vq39, h40, h41⟩ := obind h37
        refine g_callV hX [.int vq3, .int vq15] [] mv_T_73 (c_T_part X.2.1 Y t vq3 vq15 ht σ _ h40) (by decide) (iwT ht) (shTt ht) rfl rfl rfl (Nat.le_of_ble_eq_true rfl) d_T_lowestWith_53 (fun h42 => ?_)
        show Gd X Y 0 σ [(0, .ref (adr Y t)), (1, .int x1), (2, .int vq3), (3, .int vq4), (4, .int vq14), (5, .int vq15)] 56 [.int vq39]
        refine g_istoreV hX [(4, .int vq39), (0, .ref (adr Y t)), (1, .int x1), (2, .int vq3), (3, .int vq4), (5, .int vq15)] d_T_lowestWith_56 (by decide) rfl ?_
        refine g_sub (lv2 := [(0, .ref (adr Y t)), (1, .int x1), (2, .int vq3), (3, .int vq4), (4, .int vq39), (5, .int vq15)]) [1, 2, 3, 4, 0, 5] rfl ?_
        cases h41
        exact KJ34
noncomputable def T_append (t : Nat) (x1 : Int32) (σ : Mem) : Option (Mem) := lt (if x1 = (-1) then false else if 8 ≤ (σ t 7) then false else true : Bool) (fun bq1 => ((if bq1 = true then (wr σ (t + 5) (σ t 7) x1).bind (fun σ13 => lt (mput σ13 t 7 ((σ13 t 7) + 1)) (fun σ15 => some σ15)) else some σ : Option (Mem))).bind (fun σ17 => some σ17))
set_option maxHeartbeats 4000000 in
set_option maxRecDepth 100000 in
theorem c_T_append (l : Launch) (Y : Wx) (t : Nat) (x1 : Int32) (ht : isT t) (σ : Mem) (o : Mem) (hf : T_append t x1 σ = some o) : Ct l Y 0 y_T_append b_T_append 2 none 0 [.ref (adr Y t), .int x1] σ none o := by
  unfold T_append at hf
  refine ct_of (by decide) (Nat.le_of_ble_eq_true rfl) rfl (fun X hXl hX hR => ?_)
  subst hXl
  have hX : Fx X Y 0 b_T_append 2 R_T 0 := hX
  refine g_iload_n hX d_T_append_0 1 rfl ?_
  refine g_iconst hX (-1) d_T_append_1 (by decide) ?_
  obtain ⟨bq1, h2, h3⟩ := ltex hf
  obtain ⟨σ17, h8, h9⟩ := obind h3
  have KJ9 : Gd X Y 0 σ17 [] 34 [] := by
    cases h9
    exact g_return hX hR d_T_append_34
  have Kbq1t : bq1 = true → Gd X Y 0 σ [(0, .ref (adr Y t)), (1, .int x1)] 14 [] := by
    intro h18
    have h11 := (if_pos h18).symm.trans h8
    refine g_aload_n hX d_T_append_14 0 rfl ?_
    refine g_getR hX (iwT ht) (shTt ht) rfl fl_T_31 d_T_append_15 ?_
    refine g_aload_n hX d_T_append_18 0 rfl ?_
    refine g_getI hX (iwT ht) (shTt ht) rfl fl_T_34.f d_T_append_19 ?_
    refine g_iload_n hX d_T_append_22 1 rfl ?_
    refine g_iastore hX (iwA5 ht) (shA5 ht) d_T_append_23 h11 (fun σ13 h14 => ?_)
    refine g_aload_n hX d_T_append_24 0 rfl ?_
    refine g_dup hX d_T_append_25 rfl ?_
    refine g_getI hX (iwT ht) (shTt ht) rfl fl_T_34.f d_T_append_26 ?_
    refine g_iconst hX 1 d_T_append_29 (by decide) ?_
    refine g_iadd hX d_T_append_30 ?_
    refine g_putI hX (iwT ht) (shTt ht) rfl fl_T_34 d_T_append_31 h14 (fun σ15 h16 => ?_)
    refine g_sub (lv2 := []) [] rfl ?_
    cases h16
    exact KJ9
  have Kbq1f : ¬ bq1 = true → Gd X Y 0 σ [(0, .ref (adr Y t)), (1, .int x1)] 34 [] := by
    intro h18
    have h12 := (if_neg h18).symm.trans h8
    refine g_sub (lv2 := []) [] rfl ?_
    cases h12
    exact KJ9
  refine g_icmp_eq hX 34 d_T_append_2 (by decide) h2 (fun h4 => ?_) (fun h5 => ?_)
  · cases h4
    exact Kbq1f (by decide)
  · refine g_aload_n hX d_T_append_5 0 rfl ?_
    refine g_getI hX (iwT ht) (shTt ht) rfl fl_T_34.f d_T_append_6 ?_
    refine g_bipush hX 8 d_T_append_9 (by decide) ?_
    refine g_icmp_ge hX 34 d_T_append_11 (by decide) h5 (fun h6 => ?_) (fun h7 => ?_)
    · cases h6
      exact Kbq1f (by decide)
    · cases h7
      exact Kbq1t rfl
noncomputable def T_stateOf (t : Nat) (x1 : Int32) (x2 : Int32) (σ : Mem) : Option (Int32) := (rd σ (t + 2) x1).bind (fun vq1 => lt (vq1 &&& x2) (fun vq3 => if vq3 = 0 then some 0 else (rd σ (t + 2) x1).bind (fun vq7 => lt (if vq3 = vq7 then 2 else 1 : Int32) (fun vq14 => some vq14))))
set_option maxHeartbeats 4000000 in
set_option maxRecDepth 100000 in
theorem c_T_stateOf (l : Launch) (Y : Wx) (t : Nat) (x1 : Int32) (x2 : Int32) (ht : isT t) (σ : Mem) (o : Int32) (hf : T_stateOf t x1 x2 σ = some o) : Ct l Y 0 y_T_stateOf b_T_stateOf 4 (some .int) 0 [.ref (adr Y t), .int x1, .int x2] σ (some (.int o)) σ := by
  unfold T_stateOf at hf
  refine ct_of (by decide) (Nat.le_of_ble_eq_true rfl) rfl (fun X hXl hX hR => ?_)
  subst hXl
  have hX : Fx X Y 0 b_T_stateOf 4 R_T 0 := hX
  refine g_aload_n hX d_T_stateOf_0 0 rfl ?_
  refine g_getR hX (iwT ht) (shTt ht) rfl fl_T_15 d_T_stateOf_1 ?_
  refine g_iload_n hX d_T_stateOf_4 1 rfl ?_
  refine g_iaload hX (iwA2 ht) (shA2 ht) d_T_stateOf_5 hf (fun vq1 h2 => ?_)
  refine g_iload_n hX d_T_stateOf_6 2 rfl ?_
  refine g_iand hX d_T_stateOf_7 ?_
  refine g_istore_n hX (fun vq3 => [(3, .int vq3), (0, .ref (adr Y t)), (1, .int x1), (2, .int x2)]) d_T_stateOf_8 (by decide) (fun _ => rfl) h2 (fun vq3 h4 => ?_)
  refine g_iload_n hX d_T_stateOf_9 0 rfl ?_
  refine g_if_ne hX 15 d_T_stateOf_10 (by decide) h4 (fun h5 => ?_) (fun h6 => ?_)
  · refine g_iload_n hX d_T_stateOf_15 0 rfl ?_
    refine g_aload_n hX d_T_stateOf_16 1 rfl ?_
    refine g_getR hX (iwT ht) (shTt ht) rfl fl_T_15 d_T_stateOf_17 ?_
    refine g_iload_n hX d_T_stateOf_20 2 rfl ?_
    refine g_iaload hX (iwA2 ht) (shA2 ht) d_T_stateOf_21 h5 (fun vq7 h8 => ?_)
    obtain ⟨vq14, h9, h10⟩ := ltex h8
    have KJ10 : Gd X Y 0 σ [] 30 [.int vq14] := by
      cases h10
      exact g_ireturn hX hR d_T_stateOf_30
    refine g_icmp_ne hX 29 d_T_stateOf_22 (by decide) h9 (fun h12 => ?_) (fun h13 => ?_)
    · refine g_iconst hX 1 d_T_stateOf_29 (by decide) ?_
      refine g_sub (lv2 := []) [] rfl ?_
      cases h12
      exact KJ10
    · refine g_iconst hX 2 d_T_stateOf_25 (by decide) ?_
      refine g_goto hX 30 d_T_stateOf_26 (by decide) ?_
      refine g_sub (lv2 := []) [] rfl ?_
      cases h13
      exact KJ10
  · refine g_iconst hX 0 d_T_stateOf_13 (by decide) ?_
    cases h6
    exact g_ireturn hX hR d_T_stateOf_14
noncomputable def T_unusedNode_b1 (t : Nat) (σ : Mem) (vq1 : Int32) : Option ((Int32) ⊕ (Int32)) := ((if 23 ≤ vq1 then some false else (rd σ (t + 3) vq1).bind (fun vq14 => if vq14 ≤ 0 then some false else some true) : Option (Bool))).bind (fun bq9 => if bq9 = true then lt (vq1 + 1) (fun vq20 => some (.inl vq20)) else some (.inr vq1))
noncomputable def T_unusedNode (t : Nat) (σ : Mem) : Option (Int32) := (lp (fun s => T_unusedNode_b1 t σ s) fuel 8).bind (fun vq2 => some vq2)
set_option maxHeartbeats 4000000 in
set_option maxRecDepth 100000 in
theorem c_T_unusedNode (l : Launch) (Y : Wx) (t : Nat) (ht : isT t) (σ : Mem) (o : Int32) (hf : T_unusedNode t σ = some o) : Ct l Y 0 y_T_unusedNode b_T_unusedNode 2 (some .int) 0 [.ref (adr Y t)] σ (some (.int o)) σ := by
  unfold T_unusedNode at hf
  refine ct_of (by decide) (Nat.le_of_ble_eq_true rfl) rfl (fun X hXl hX hR => ?_)
  subst hXl
  have hX : Fx X Y 0 b_T_unusedNode 2 R_T 0 := hX
  refine g_bipush hX 8 d_T_unusedNode_0 (by decide) ?_
  refine g_istore_nV hX [(1, .int 8), (0, .ref (adr Y t))] d_T_unusedNode_2 (by decide) rfl ?_
  obtain ⟨vq2, h6, h7⟩ := obind hf
  have KX7 : Gd X Y 0 σ [(1, .int vq2)] 24 [] := by
    refine g_iload_n hX d_T_unusedNode_24 0 rfl ?_
    cases h7
    exact g_ireturn hX hR d_T_unusedNode_25
  refine g_sub (lv2 := [(0, .ref (adr Y t)), (1, .int 8)]) [1, 0] rfl ?_
  refine g_loop (fun s => T_unusedNode_b1 t σ s) (fun s => Gd X Y 0 σ [(0, .ref (adr Y t)), (1, .int s)] 3 []) vq2 ?_ fuel 8 h6
  intro vq1 y5 h5 h3 h4
  have h5 : T_unusedNode_b1 t σ vq1 = some y5 := h5
  unfold T_unusedNode_b1 at h5
  show Gd X Y 0 σ [(0, .ref (adr Y t)), (1, .int vq1)] 3 []
  refine g_iload_n hX d_T_unusedNode_3 1 rfl ?_
  refine g_bipush hX 23 d_T_unusedNode_4 (by decide) ?_
  obtain ⟨bq9, h10, h11⟩ := obind h5
  have Kbq9t : bq9 = true → Gd X Y 0 σ [(0, .ref (adr Y t)), (1, .int vq1)] 18 [] := by
    intro h22
    have h18 := (if_pos h22).symm.trans h11
    refine g_iinc hX (fun vq20 => [(1, .int vq20), (0, .ref (adr Y t))]) d_T_unusedNode_18 1 rfl rfl (by decide) (fun _ => rfl) h18 (fun vq20 h21 => ?_)
    refine g_goto hX 3 d_T_unusedNode_21 (by decide) ?_
    refine g_sub (lv2 := [(0, .ref (adr Y t)), (1, .int vq20)]) [1, 0] rfl ?_
    cases h21
    exact h3 vq20 rfl
  have Kbq9f : ¬ bq9 = true → Gd X Y 0 σ [(0, .ref (adr Y t)), (1, .int vq1)] 24 [] := by
    intro h22
    have h19 := (if_neg h22).symm.trans h11
    refine g_sub (lv2 := [(1, .int vq1)]) [1] rfl ?_
    cases h19
    have h8 := h4 vq1 rfl
    cases h8
    exact KX7
  refine g_icmp_ge hX 24 d_T_unusedNode_6 (by decide) h10 (fun h12 => ?_) (fun h13 => ?_)
  · cases h12
    exact Kbq9f (by decide)
  · refine g_aload_n hX d_T_unusedNode_9 0 rfl ?_
    refine g_getR hX (iwT ht) (shTt ht) rfl fl_T_18 d_T_unusedNode_10 ?_
    refine g_iload_n hX d_T_unusedNode_13 1 rfl ?_
    refine g_iaload hX (iwA3 ht) (shA3 ht) d_T_unusedNode_14 h13 (fun vq14 h15 => ?_)
    refine g_if_le hX 24 d_T_unusedNode_15 (by decide) h15 (fun h16 => ?_) (fun h17 => ?_)
    · cases h16
      exact Kbq9f (by decide)
    · cases h17
      exact Kbq9t rfl
noncomputable def T_bundle_b1 (t : Nat) (x1 : Int32) (x2 : Int32) (x3 : Int32) (vq1 : Int32) (vq9 : Int32) (σ10 : Mem) : Option ((Int32 × Mem) ⊕ (Mem)) := (rd σ10 (t + 3) x1).bind (fun vq18 => if vq18 ≤ vq9 then some (.inr σ10) else (T_part t x1 vq9 σ10).bind (fun vq22 => (T_stateOf t vq22 x2 σ10).bind (fun vq26 => ((if vq26 = x3 then (T_part t x1 vq9 σ10).bind (fun vq36 => (T_add t vq1 vq36 σ10).bind (fun σ40 => some σ40)) else some σ10 : Option (Mem))).bind (fun σ35 => lt (vq9 + 1) (fun vq44 => some (.inl (vq44, σ35)))))))
noncomputable def T_bundle (t : Nat) (x1 : Int32) (x2 : Int32) (x3 : Int32) (σ : Mem) : Option (Int32 × Mem) := (T_unusedNode t σ).bind (fun vq1 => (wr σ (t + 1) vq1 0).bind (fun σ5 => (wr σ5 (t + 2) vq1 0).bind (fun σ7 => (lp (fun s => T_bundle_b1 t x1 x2 x3 vq1 s.1 s.2) fuel (0, σ7)).bind (fun σ11 => (rd σ11 (t + 3) vq1).bind (fun vq46 => if vq46 = 0 then some ((-1), σ11) else (rd σ11 (t + 3) vq1).bind (fun vq50 => if vq50 = 1 then (wr σ11 (t + 3) vq1 0).bind (fun σ54 => (T_part t vq1 0 σ54).bind (fun vq56 => some (vq56, σ54))) else some (vq1, σ11)))))))
set_option maxHeartbeats 4000000 in
set_option maxRecDepth 100000 in
theorem c_T_bundle (l : Launch) (Y : Wx) (t : Nat) (x1 : Int32) (x2 : Int32) (x3 : Int32) (ht : isT t) (σ : Mem) (o : Int32 × Mem) (hf : T_bundle t x1 x2 x3 σ = some o) : Ct l Y 0 y_T_bundle b_T_bundle 6 (some .int) 1 [.ref (adr Y t), .int x1, .int x2, .int x3] σ (some (.int o.1)) o.2 := by
  unfold T_bundle at hf
  refine ct_of (by decide) (Nat.le_of_ble_eq_true rfl) rfl (fun X hXl hX hR => ?_)
  subst hXl
  have hX : Fx X Y 0 b_T_bundle 6 R_T 1 := hX
  refine g_aload_n hX d_T_bundle_0 0 rfl ?_
  obtain ⟨vq1, h2, h3⟩ := obind hf
  refine g_callV hX [] [] mv_T_131 (c_T_unusedNode X.2.1 Y t ht σ _ h2) (by decide) (iwT ht) (shTt ht) rfl rfl rfl (Nat.le_of_ble_eq_true rfl) d_T_bundle_1 (fun h4 => ?_)
  show Gd X Y 0 σ [(0, .ref (adr Y t)), (1, .int x1), (2, .int x2), (3, .int x3)] 4 [.int vq1]
  refine g_istoreV hX [(4, .int vq1), (0, .ref (adr Y t)), (1, .int x1), (2, .int x2), (3, .int x3)] d_T_bundle_4 (by decide) rfl ?_
  refine g_aload_n hX d_T_bundle_6 1 rfl ?_
  refine g_getR hX (iwT ht) (shTt ht) rfl fl_T_11 d_T_bundle_7 ?_
  refine g_iload hX d_T_bundle_10 0 rfl ?_
  refine g_iconst hX 0 d_T_bundle_12 (by decide) ?_
  refine g_iastore hX (iwA1 ht) (shA1 ht) d_T_bundle_13 h3 (fun σ5 h6 => ?_)
  refine g_aload_n hX d_T_bundle_14 1 rfl ?_
  refine g_getR hX (iwT ht) (shTt ht) rfl fl_T_15 d_T_bundle_15 ?_
  refine g_iload hX d_T_bundle_18 0 rfl ?_
  refine g_iconst hX 0 d_T_bundle_20 (by decide) ?_
  refine g_iastore hX (iwA2 ht) (shA2 ht) d_T_bundle_21 h6 (fun σ7 h8 => ?_)
  refine g_iconst hX 0 d_T_bundle_22 (by decide) ?_
  refine g_istoreV hX [(5, .int 0), (4, .int vq1), (0, .ref (adr Y t)), (1, .int x1), (2, .int x2), (3, .int x3)] d_T_bundle_23 (by decide) rfl ?_
  obtain ⟨σ11, h15, h16⟩ := obind h8
  have KX16 : Gd X Y 0 σ11 [(0, .ref (adr Y t)), (4, .int vq1)] 71 [] := by
    refine g_aload_n hX d_T_bundle_71 0 rfl ?_
    refine g_getR hX (iwT ht) (shTt ht) rfl fl_T_18 d_T_bundle_72 ?_
    refine g_iload hX d_T_bundle_75 1 rfl ?_
    refine g_iaload hX (iwA3 ht) (shA3 ht) d_T_bundle_77 h16 (fun vq46 h47 => ?_)
    refine g_if_ne hX 83 d_T_bundle_78 (by decide) h47 (fun h48 => ?_) (fun h49 => ?_)
    · refine g_aload_n hX d_T_bundle_83 0 rfl ?_
      refine g_getR hX (iwT ht) (shTt ht) rfl fl_T_18 d_T_bundle_84 ?_
      refine g_iload hX d_T_bundle_87 1 rfl ?_
      refine g_iaload hX (iwA3 ht) (shA3 ht) d_T_bundle_89 h48 (fun vq50 h51 => ?_)
      refine g_iconst hX 1 d_T_bundle_90 (by decide) ?_
      refine g_icmp_ne hX 110 d_T_bundle_91 (by decide) h51 (fun h52 => ?_) (fun h53 => ?_)
      · refine g_iload hX d_T_bundle_110 1 rfl ?_
        cases h52
        exact g_ireturn hX hR d_T_bundle_112
      · refine g_aload_n hX d_T_bundle_94 0 rfl ?_
        refine g_getR hX (iwT ht) (shTt ht) rfl fl_T_18 d_T_bundle_95 ?_
        refine g_iload hX d_T_bundle_98 1 rfl ?_
        refine g_iconst hX 0 d_T_bundle_100 (by decide) ?_
        refine g_iastore hX (iwA3 ht) (shA3 ht) d_T_bundle_101 h53 (fun σ54 h55 => ?_)
        refine g_aload_n hX d_T_bundle_102 0 rfl ?_
        refine g_iload hX d_T_bundle_103 1 rfl ?_
        refine g_iconst hX 0 d_T_bundle_105 (by decide) ?_
        obtain ⟨vq56, h57, h58⟩ := obind h55
        refine g_callV hX [.int vq1, .int 0] [] mv_T_73 (c_T_part X.2.1 Y t vq1 0 ht σ54 _ h57) (by decide) (iwT ht) (shTt ht) rfl rfl rfl (Nat.le_of_ble_eq_true rfl) d_T_bundle_106 (fun h59 => ?_)
        show Gd X Y 0 σ54 [(0, .ref (adr Y t)), (4, .int vq1)] 109 [.int vq56]
        cases h58
        exact g_ireturn hX hR d_T_bundle_109
    · refine g_iconst hX (-1) d_T_bundle_81 (by decide) ?_
      cases h49
      exact g_ireturn hX hR d_T_bundle_82
  refine g_sub (lv2 := [(0, .ref (adr Y t)), (1, .int x1), (2, .int x2), (3, .int x3), (4, .int vq1), (5, .int 0)]) [2, 3, 4, 5, 1, 0] rfl ?_
  refine g_loop (fun s => T_bundle_b1 t x1 x2 x3 vq1 s.1 s.2) (fun s => Gd X Y 0 s.2 [(0, .ref (adr Y t)), (1, .int x1), (2, .int x2), (3, .int x3), (4, .int vq1), (5, .int s.1)] 25 []) σ11 ?_ fuel (0, σ7) h15
  intro s y14 h14 h12 h13
  obtain ⟨vq9, σ10⟩ := s
  have h14 : T_bundle_b1 t x1 x2 x3 vq1 vq9 σ10 = some y14 := h14
  unfold T_bundle_b1 at h14
  show Gd X Y 0 σ10 [(0, .ref (adr Y t)), (1, .int x1), (2, .int x2), (3, .int x3), (4, .int vq1), (5, .int vq9)] 25 []
  refine g_iload hX d_T_bundle_25 5 rfl ?_
  refine g_aload_n hX d_T_bundle_27 0 rfl ?_
  refine g_getR hX (iwT ht) (shTt ht) rfl fl_T_18 d_T_bundle_28 ?_
  refine g_iload_n hX d_T_bundle_31 1 rfl ?_
  refine g_iaload hX (iwA3 ht) (shA3 ht) d_T_bundle_32 h14 (fun vq18 h19 => ?_)
  refine g_icmp_ge hX 71 d_T_bundle_33 (by decide) h19 (fun h20 => ?_) (fun h21 => ?_)
  · refine g_sub (lv2 := [(0, .ref (adr Y t)), (4, .int vq1)]) [0, 4] rfl ?_
    cases h20
    have h17 := h13 σ10 rfl
    cases h17
    exact KX16
  · refine g_aload_n hX d_T_bundle_36 0 rfl ?_
    refine g_aload_n hX d_T_bundle_37 0 rfl ?_
    refine g_iload_n hX d_T_bundle_38 1 rfl ?_
    refine g_iload hX d_T_bundle_39 5 rfl ?_
    obtain ⟨vq22, h23, h24⟩ := obind h21
    refine g_callV hX [.int x1, .int vq9] [.ref (adr Y t)] mv_T_73 (c_T_part X.2.1 Y t x1 vq9 ht σ10 _ h23) (by decide) (iwT ht) (shTt ht) rfl rfl rfl (Nat.le_of_ble_eq_true rfl) d_T_bundle_41 (fun h25 => ?_)
    show Gd X Y 0 σ10 [(0, .ref (adr Y t)), (1, .int x1), (2, .int x2), (3, .int x3), (4, .int vq1), (5, .int vq9)] 44 [.int vq22, .ref (adr Y t)]
    refine g_iload_n hX d_T_bundle_44 2 rfl ?_
    obtain ⟨vq26, h27, h28⟩ := obind h24
    refine g_callV hX [.int vq22, .int x2] [] mv_T_97 (c_T_stateOf X.2.1 Y t vq22 x2 ht σ10 _ h27) (by decide) (iwT ht) (shTt ht) rfl rfl rfl (Nat.le_of_ble_eq_true rfl) d_T_bundle_45 (fun h29 => ?_)
    show Gd X Y 0 σ10 [(0, .ref (adr Y t)), (1, .int x1), (2, .int x2), (3, .int x3), (4, .int vq1), (5, .int vq9)] 48 [.int vq26]
    refine g_iload_n hX d_T_bundle_48 3 rfl ?_
    obtain ⟨σ35, h30, h31⟩ := obind h28
    have KJ31 : Gd X Y 0 σ35 [(0, .ref (adr Y t)), (1, .int x1), (2, .int x2), (3, .int x3), (4, .int vq1), (5, .int vq9)] 65 [] := by
      refine g_iinc hX (fun vq44 => [(5, .int vq44), (0, .ref (adr Y t)), (1, .int x1), (2, .int x2), (3, .int x3), (4, .int vq1)]) d_T_bundle_65 5 rfl rfl (by decide) (fun _ => rfl) h31 (fun vq44 h45 => ?_)
      refine g_goto hX 25 d_T_bundle_68 (by decide) ?_
      refine g_sub (lv2 := [(0, .ref (adr Y t)), (1, .int x1), (2, .int x2), (3, .int x3), (4, .int vq1), (5, .int vq44)]) [1, 2, 3, 4, 5, 0] rfl ?_
      cases h45
      exact h12 (vq44, σ35) rfl
    refine g_icmp_ne hX 65 d_T_bundle_49 (by decide) h30 (fun h33 => ?_) (fun h34 => ?_)
    · refine g_sub (lv2 := [(0, .ref (adr Y t)), (1, .int x1), (2, .int x2), (3, .int x3), (4, .int vq1), (5, .int vq9)]) [0, 1, 2, 3, 4, 5] rfl ?_
      cases h33
      exact KJ31
    · refine g_aload_n hX d_T_bundle_52 0 rfl ?_
      refine g_iload hX d_T_bundle_53 4 rfl ?_
      refine g_aload_n hX d_T_bundle_55 0 rfl ?_
      refine g_iload_n hX d_T_bundle_56 1 rfl ?_
      refine g_iload hX d_T_bundle_57 5 rfl ?_
      obtain ⟨vq36, h37, h38⟩ := obind h34
      refine g_callV hX [.int x1, .int vq9] [.int vq1, .ref (adr Y t)] mv_T_73 (c_T_part X.2.1 Y t x1 vq9 ht σ10 _ h37) (by decide) (iwT ht) (shTt ht) rfl rfl rfl (Nat.le_of_ble_eq_true rfl) d_T_bundle_59 (fun h39 => ?_)
      show Gd X Y 0 σ10 [(0, .ref (adr Y t)), (1, .int x1), (2, .int x2), (3, .int x3), (4, .int vq1), (5, .int vq9)] 62 [.int vq36, .int vq1, .ref (adr Y t)]
      obtain ⟨σ40, h41, h42⟩ := obind h38
      refine g_callV hX [.int vq1, .int vq36] [] mv_T_61 (c_T_add X.2.1 Y t vq1 vq36 ht σ10 _ h41) (by decide) (iwT ht) (shTt ht) rfl rfl rfl (Nat.le_of_ble_eq_true rfl) d_T_bundle_62 (fun h43 => ?_)
      show Gd X Y 0 σ40 [(0, .ref (adr Y t)), (1, .int x1), (2, .int x2), (3, .int x3), (4, .int vq1), (5, .int vq9)] 65 []
      refine g_sub (lv2 := [(0, .ref (adr Y t)), (1, .int x1), (2, .int x2), (3, .int x3), (4, .int vq1), (5, .int vq9)]) [0, 1, 2, 3, 4, 5] rfl ?_
      cases h42
      exact KJ31
noncomputable def T_fillFromLine_b1 (t : Nat) (x1 : Int32) (vq7 : Int32) (σ8 : Mem) : Option ((Int32 × Mem) ⊕ (Mem)) := if (σ8 t 7) ≤ vq7 then some (.inr σ8) else (rd σ8 (t + 5) vq7).bind (fun vq18 => (T_add t x1 vq18 σ8).bind (fun σ20 => lt (vq7 + 1) (fun vq24 => some (.inl (vq24, σ20)))))
noncomputable def T_fillFromLine (t : Nat) (x1 : Int32) (σ : Mem) : Option (Mem) := (wr σ (t + 1) x1 1).bind (fun σ1 => (wr σ1 (t + 3) x1 0).bind (fun σ3 => (wr σ3 (t + 2) x1 0).bind (fun σ5 => (lp (fun s => T_fillFromLine_b1 t x1 s.1 s.2) fuel (0, σ5)).bind (fun σ9 => some σ9))))
set_option maxHeartbeats 4000000 in
set_option maxRecDepth 100000 in
theorem c_T_fillFromLine (l : Launch) (Y : Wx) (t : Nat) (x1 : Int32) (ht : isT t) (σ : Mem) (o : Mem) (hf : T_fillFromLine t x1 σ = some o) : Ct l Y 0 y_T_fillFromLine b_T_fillFromLine 3 none 1 [.ref (adr Y t), .int x1] σ none o := by
  unfold T_fillFromLine at hf
  refine ct_of (by decide) (Nat.le_of_ble_eq_true rfl) rfl (fun X hXl hX hR => ?_)
  subst hXl
  have hX : Fx X Y 0 b_T_fillFromLine 3 R_T 1 := hX
  refine g_aload_n hX d_T_fillFromLine_0 0 rfl ?_
  refine g_getR hX (iwT ht) (shTt ht) rfl fl_T_11 d_T_fillFromLine_1 ?_
  refine g_iload_n hX d_T_fillFromLine_4 1 rfl ?_
  refine g_iconst hX 1 d_T_fillFromLine_5 (by decide) ?_
  refine g_iastore hX (iwA1 ht) (shA1 ht) d_T_fillFromLine_6 hf (fun σ1 h2 => ?_)
  refine g_aload_n hX d_T_fillFromLine_7 0 rfl ?_
  refine g_getR hX (iwT ht) (shTt ht) rfl fl_T_18 d_T_fillFromLine_8 ?_
  refine g_iload_n hX d_T_fillFromLine_11 1 rfl ?_
  refine g_iconst hX 0 d_T_fillFromLine_12 (by decide) ?_
  refine g_iastore hX (iwA3 ht) (shA3 ht) d_T_fillFromLine_13 h2 (fun σ3 h4 => ?_)
  refine g_aload_n hX d_T_fillFromLine_14 0 rfl ?_
  refine g_getR hX (iwT ht) (shTt ht) rfl fl_T_15 d_T_fillFromLine_15 ?_
  refine g_iload_n hX d_T_fillFromLine_18 1 rfl ?_
  refine g_iconst hX 0 d_T_fillFromLine_19 (by decide) ?_
  refine g_iastore hX (iwA2 ht) (shA2 ht) d_T_fillFromLine_20 h4 (fun σ5 h6 => ?_)
  refine g_iconst hX 0 d_T_fillFromLine_21 (by decide) ?_
  refine g_istore_nV hX [(2, .int 0), (0, .ref (adr Y t)), (1, .int x1)] d_T_fillFromLine_22 (by decide) rfl ?_
  obtain ⟨σ9, h13, h14⟩ := obind h6
  have KX14 : Gd X Y 0 σ9 [] 48 [] := by
    cases h14
    exact g_return hX hR d_T_fillFromLine_48
  refine g_sub (lv2 := [(0, .ref (adr Y t)), (1, .int x1), (2, .int 0)]) [1, 2, 0] rfl ?_
  refine g_loop (fun s => T_fillFromLine_b1 t x1 s.1 s.2) (fun s => Gd X Y 0 s.2 [(0, .ref (adr Y t)), (1, .int x1), (2, .int s.1)] 23 []) σ9 ?_ fuel (0, σ5) h13
  intro s y12 h12 h10 h11
  obtain ⟨vq7, σ8⟩ := s
  have h12 : T_fillFromLine_b1 t x1 vq7 σ8 = some y12 := h12
  unfold T_fillFromLine_b1 at h12
  show Gd X Y 0 σ8 [(0, .ref (adr Y t)), (1, .int x1), (2, .int vq7)] 23 []
  refine g_iload_n hX d_T_fillFromLine_23 2 rfl ?_
  refine g_aload_n hX d_T_fillFromLine_24 0 rfl ?_
  refine g_getI hX (iwT ht) (shTt ht) rfl fl_T_34.f d_T_fillFromLine_25 ?_
  refine g_icmp_ge hX 48 d_T_fillFromLine_28 (by decide) h12 (fun h16 => ?_) (fun h17 => ?_)
  · refine g_sub (lv2 := []) [] rfl ?_
    cases h16
    have h15 := h11 σ8 rfl
    cases h15
    exact KX14
  · refine g_aload_n hX d_T_fillFromLine_31 0 rfl ?_
    refine g_iload_n hX d_T_fillFromLine_32 1 rfl ?_
    refine g_aload_n hX d_T_fillFromLine_33 0 rfl ?_
    refine g_getR hX (iwT ht) (shTt ht) rfl fl_T_31 d_T_fillFromLine_34 ?_
    refine g_iload_n hX d_T_fillFromLine_37 2 rfl ?_
    refine g_iaload hX (iwA5 ht) (shA5 ht) d_T_fillFromLine_38 h17 (fun vq18 h19 => ?_)
    obtain ⟨σ20, h21, h22⟩ := obind h19
    refine g_callV hX [.int x1, .int vq18] [] mv_T_61 (c_T_add X.2.1 Y t x1 vq18 ht σ8 _ h21) (by decide) (iwT ht) (shTt ht) rfl rfl rfl (Nat.le_of_ble_eq_true rfl) d_T_fillFromLine_39 (fun h23 => ?_)
    show Gd X Y 0 σ20 [(0, .ref (adr Y t)), (1, .int x1), (2, .int vq7)] 42 []
    refine g_iinc hX (fun vq24 => [(2, .int vq24), (0, .ref (adr Y t)), (1, .int x1)]) d_T_fillFromLine_42 2 rfl rfl (by decide) (fun _ => rfl) h22 (fun vq24 h25 => ?_)
    refine g_goto hX 23 d_T_fillFromLine_45 (by decide) ?_
    refine g_sub (lv2 := [(0, .ref (adr Y t)), (1, .int x1), (2, .int vq24)]) [1, 2, 0] rfl ?_
    cases h25
    exact h10 (vq24, σ20) rfl
noncomputable def T_keepEmpty_b1 (t : Nat) (x1 : Int32) (x2 : Int32) (vq1 : Int32) (vq7 : Int32) (σ8 : Mem) : Option ((Int32 × Mem) ⊕ (Mem)) := if vq1 ≤ vq7 then some (.inr σ8) else (T_part t x1 vq7 σ8).bind (fun vq18 => (T_stateOf t vq18 x2 σ8).bind (fun vq22 => ((if vq22 = 0 then (T_part t x1 vq7 σ8).bind (fun vq32 => (T_add t x1 vq32 σ8).bind (fun σ36 => some σ36)) else some σ8 : Option (Mem))).bind (fun σ31 => lt (vq7 + 1) (fun vq40 => some (.inl (vq40, σ31))))))
noncomputable def T_keepEmpty (t : Nat) (x1 : Int32) (x2 : Int32) (σ : Mem) : Option (Mem) := (rd σ (t + 3) x1).bind (fun vq1 => (wr σ (t + 3) x1 0).bind (fun σ3 => (wr σ3 (t + 2) x1 0).bind (fun σ5 => (lp (fun s => T_keepEmpty_b1 t x1 x2 vq1 s.1 s.2) fuel (0, σ5)).bind (fun σ9 => some σ9))))
set_option maxHeartbeats 4000000 in
set_option maxRecDepth 100000 in
theorem c_T_keepEmpty (l : Launch) (Y : Wx) (t : Nat) (x1 : Int32) (x2 : Int32) (ht : isT t) (σ : Mem) (o : Mem) (hf : T_keepEmpty t x1 x2 σ = some o) : Ct l Y 0 y_T_keepEmpty b_T_keepEmpty 5 none 1 [.ref (adr Y t), .int x1, .int x2] σ none o := by
  unfold T_keepEmpty at hf
  refine ct_of (by decide) (Nat.le_of_ble_eq_true rfl) rfl (fun X hXl hX hR => ?_)
  subst hXl
  have hX : Fx X Y 0 b_T_keepEmpty 5 R_T 1 := hX
  refine g_aload_n hX d_T_keepEmpty_0 0 rfl ?_
  refine g_getR hX (iwT ht) (shTt ht) rfl fl_T_18 d_T_keepEmpty_1 ?_
  refine g_iload_n hX d_T_keepEmpty_4 1 rfl ?_
  refine g_iaload hX (iwA3 ht) (shA3 ht) d_T_keepEmpty_5 hf (fun vq1 h2 => ?_)
  refine g_istore_nV hX [(3, .int vq1), (0, .ref (adr Y t)), (1, .int x1), (2, .int x2)] d_T_keepEmpty_6 (by decide) rfl ?_
  refine g_aload_n hX d_T_keepEmpty_7 1 rfl ?_
  refine g_getR hX (iwT ht) (shTt ht) rfl fl_T_18 d_T_keepEmpty_8 ?_
  refine g_iload_n hX d_T_keepEmpty_11 2 rfl ?_
  refine g_iconst hX 0 d_T_keepEmpty_12 (by decide) ?_
  refine g_iastore hX (iwA3 ht) (shA3 ht) d_T_keepEmpty_13 h2 (fun σ3 h4 => ?_)
  refine g_aload_n hX d_T_keepEmpty_14 1 rfl ?_
  refine g_getR hX (iwT ht) (shTt ht) rfl fl_T_15 d_T_keepEmpty_15 ?_
  refine g_iload_n hX d_T_keepEmpty_18 2 rfl ?_
  refine g_iconst hX 0 d_T_keepEmpty_19 (by decide) ?_
  refine g_iastore hX (iwA2 ht) (shA2 ht) d_T_keepEmpty_20 h4 (fun σ5 h6 => ?_)
  refine g_iconst hX 0 d_T_keepEmpty_21 (by decide) ?_
  refine g_istoreV hX [(4, .int 0), (3, .int vq1), (0, .ref (adr Y t)), (1, .int x1), (2, .int x2)] d_T_keepEmpty_22 (by decide) rfl ?_
  obtain ⟨σ9, h13, h14⟩ := obind h6
  have KX14 : Gd X Y 0 σ9 [] 63 [] := by
    cases h14
    exact g_return hX hR d_T_keepEmpty_63
  refine g_sub (lv2 := [(0, .ref (adr Y t)), (1, .int x1), (2, .int x2), (3, .int vq1), (4, .int 0)]) [2, 3, 4, 1, 0] rfl ?_
  refine g_loop (fun s => T_keepEmpty_b1 t x1 x2 vq1 s.1 s.2) (fun s => Gd X Y 0 s.2 [(0, .ref (adr Y t)), (1, .int x1), (2, .int x2), (3, .int vq1), (4, .int s.1)] 24 []) σ9 ?_ fuel (0, σ5) h13
  intro s y12 h12 h10 h11
  obtain ⟨vq7, σ8⟩ := s
  have h12 : T_keepEmpty_b1 t x1 x2 vq1 vq7 σ8 = some y12 := h12
  unfold T_keepEmpty_b1 at h12
  show Gd X Y 0 σ8 [(0, .ref (adr Y t)), (1, .int x1), (2, .int x2), (3, .int vq1), (4, .int vq7)] 24 []
  refine g_iload hX d_T_keepEmpty_24 4 rfl ?_
  refine g_iload_n hX d_T_keepEmpty_26 3 rfl ?_
  refine g_icmp_ge hX 63 d_T_keepEmpty_27 (by decide) h12 (fun h16 => ?_) (fun h17 => ?_)
  · refine g_sub (lv2 := []) [] rfl ?_
    cases h16
    have h15 := h11 σ8 rfl
    cases h15
    exact KX14
  · refine g_aload_n hX d_T_keepEmpty_30 0 rfl ?_
    refine g_aload_n hX d_T_keepEmpty_31 0 rfl ?_
    refine g_iload_n hX d_T_keepEmpty_32 1 rfl ?_
    refine g_iload hX d_T_keepEmpty_33 4 rfl ?_
    obtain ⟨vq18, h19, h20⟩ := obind h17
    refine g_callV hX [.int x1, .int vq7] [.ref (adr Y t)] mv_T_73 (c_T_part X.2.1 Y t x1 vq7 ht σ8 _ h19) (by decide) (iwT ht) (shTt ht) rfl rfl rfl (Nat.le_of_ble_eq_true rfl) d_T_keepEmpty_35 (fun h21 => ?_)
    show Gd X Y 0 σ8 [(0, .ref (adr Y t)), (1, .int x1), (2, .int x2), (3, .int vq1), (4, .int vq7)] 38 [.int vq18, .ref (adr Y t)]
    refine g_iload_n hX d_T_keepEmpty_38 2 rfl ?_
    obtain ⟨vq22, h23, h24⟩ := obind h20
    refine g_callV hX [.int vq18, .int x2] [] mv_T_97 (c_T_stateOf X.2.1 Y t vq18 x2 ht σ8 _ h23) (by decide) (iwT ht) (shTt ht) rfl rfl rfl (Nat.le_of_ble_eq_true rfl) d_T_keepEmpty_39 (fun h25 => ?_)
    show Gd X Y 0 σ8 [(0, .ref (adr Y t)), (1, .int x1), (2, .int x2), (3, .int vq1), (4, .int vq7)] 42 [.int vq22]
    obtain ⟨σ31, h26, h27⟩ := obind h24
    have KJ27 : Gd X Y 0 σ31 [(0, .ref (adr Y t)), (1, .int x1), (2, .int x2), (3, .int vq1), (4, .int vq7)] 57 [] := by
      refine g_iinc hX (fun vq40 => [(4, .int vq40), (0, .ref (adr Y t)), (1, .int x1), (2, .int x2), (3, .int vq1)]) d_T_keepEmpty_57 4 rfl rfl (by decide) (fun _ => rfl) h27 (fun vq40 h41 => ?_)
      refine g_goto hX 24 d_T_keepEmpty_60 (by decide) ?_
      refine g_sub (lv2 := [(0, .ref (adr Y t)), (1, .int x1), (2, .int x2), (3, .int vq1), (4, .int vq40)]) [1, 2, 3, 4, 0] rfl ?_
      cases h41
      exact h10 (vq40, σ31) rfl
    refine g_if_ne hX 57 d_T_keepEmpty_42 (by decide) h26 (fun h29 => ?_) (fun h30 => ?_)
    · refine g_sub (lv2 := [(0, .ref (adr Y t)), (1, .int x1), (2, .int x2), (3, .int vq1), (4, .int vq7)]) [0, 1, 2, 3, 4] rfl ?_
      cases h29
      exact KJ27
    · refine g_aload_n hX d_T_keepEmpty_45 0 rfl ?_
      refine g_iload_n hX d_T_keepEmpty_46 1 rfl ?_
      refine g_aload_n hX d_T_keepEmpty_47 0 rfl ?_
      refine g_iload_n hX d_T_keepEmpty_48 1 rfl ?_
      refine g_iload hX d_T_keepEmpty_49 4 rfl ?_
      obtain ⟨vq32, h33, h34⟩ := obind h30
      refine g_callV hX [.int x1, .int vq7] [.int x1, .ref (adr Y t)] mv_T_73 (c_T_part X.2.1 Y t x1 vq7 ht σ8 _ h33) (by decide) (iwT ht) (shTt ht) rfl rfl rfl (Nat.le_of_ble_eq_true rfl) d_T_keepEmpty_51 (fun h35 => ?_)
      show Gd X Y 0 σ8 [(0, .ref (adr Y t)), (1, .int x1), (2, .int x2), (3, .int vq1), (4, .int vq7)] 54 [.int vq32, .int x1, .ref (adr Y t)]
      obtain ⟨σ36, h37, h38⟩ := obind h34
      refine g_callV hX [.int x1, .int vq32] [] mv_T_61 (c_T_add X.2.1 Y t x1 vq32 ht σ8 _ h37) (by decide) (iwT ht) (shTt ht) rfl rfl rfl (Nat.le_of_ble_eq_true rfl) d_T_keepEmpty_54 (fun h39 => ?_)
      show Gd X Y 0 σ36 [(0, .ref (adr Y t)), (1, .int x1), (2, .int x2), (3, .int vq1), (4, .int vq7)] 57 []
      refine g_sub (lv2 := [(0, .ref (adr Y t)), (1, .int x1), (2, .int x2), (3, .int vq1), (4, .int vq7)]) [0, 1, 2, 3, 4] rfl ?_
      cases h38
      exact KJ27
noncomputable def T_partIn_b1 (t : Nat) (x1 : Int32) (x2 : Int32) (x3 : Int32) (x4 : Int32) (σ : Mem) (vq1 : Int32) (vq2 : Int32) : Option ((Int32 × Int32) ⊕ ((Unit) ⊕ (Int32))) := (rd σ (t + 3) x1).bind (fun vq9 => if vq9 ≤ vq2 then some (.inr (.inl ())) else (T_part t x1 vq2 σ).bind (fun vq13 => (T_stateOf t vq13 x2 σ).bind (fun vq17 => ((if vq17 = x3 then if vq1 = x4 then (T_part t x1 vq2 σ).bind (fun vq31 => some (.inr (.inr (.inr vq31)))) else lt (vq1 + 1) (fun vq29 => some (.inl vq29)) else some (.inl vq1) : Option ((Int32) ⊕ ((Int32 × Int32) ⊕ ((Unit) ⊕ (Int32)))))).bind (fun x => Sum.elim (fun vq26 => lt (vq2 + 1) (fun vq35 => some (.inl (vq26, vq35)))) (fun z => some z) x))))
noncomputable def T_partIn (t : Nat) (x1 : Int32) (x2 : Int32) (x3 : Int32) (x4 : Int32) (σ : Mem) : Option (Int32) := (lp (fun s => T_partIn_b1 t x1 x2 x3 x4 σ s.1 s.2) fuel (0, 0)).bind (fun x => Sum.elim (fun _u => some (-1)) (fun z => some z) x)
set_option maxHeartbeats 4000000 in
set_option maxRecDepth 100000 in
theorem c_T_partIn (l : Launch) (Y : Wx) (t : Nat) (x1 : Int32) (x2 : Int32) (x3 : Int32) (x4 : Int32) (ht : isT t) (σ : Mem) (o : Int32) (hf : T_partIn t x1 x2 x3 x4 σ = some o) : Ct l Y 0 y_T_partIn b_T_partIn 7 (some .int) 1 [.ref (adr Y t), .int x1, .int x2, .int x3, .int x4] σ (some (.int o)) σ := by
  unfold T_partIn at hf
  refine ct_of (by decide) (Nat.le_of_ble_eq_true rfl) rfl (fun X hXl hX hR => ?_)
  subst hXl
  have hX : Fx X Y 0 b_T_partIn 7 R_T 1 := hX
  refine g_iconst hX 0 d_T_partIn_0 (by decide) ?_
  refine g_istoreV hX [(5, .int 0), (0, .ref (adr Y t)), (1, .int x1), (2, .int x2), (3, .int x3), (4, .int x4)] d_T_partIn_1 (by decide) rfl ?_
  refine g_iconst hX 0 d_T_partIn_3 (by decide) ?_
  refine g_istoreV hX [(6, .int 0), (5, .int 0), (0, .ref (adr Y t)), (1, .int x1), (2, .int x2), (3, .int x3), (4, .int x4)] d_T_partIn_4 (by decide) rfl ?_
  obtain ⟨h6x, h6, h7⟩ := obind hf
  have KX7 : h6x = .inl () → Gd X Y 0 σ [] 57 [] := by
    intro h8
    subst h8
    dsimp only [Sum.elim_inl] at h7
    refine g_iconst hX (-1) d_T_partIn_57 (by decide) ?_
    cases h7
    exact g_ireturn hX hR d_T_partIn_58
  refine g_sub (lv2 := [(0, .ref (adr Y t)), (1, .int x1), (2, .int x2), (3, .int x3), (4, .int x4), (5, .int 0), (6, .int 0)]) [2, 3, 4, 5, 6, 1, 0] rfl ?_
  refine g_loop (fun s => T_partIn_b1 t x1 x2 x3 x4 σ s.1 s.2) (fun s => Gd X Y 0 σ [(0, .ref (adr Y t)), (1, .int x1), (2, .int x2), (3, .int x3), (4, .int x4), (5, .int s.1), (6, .int s.2)] 6 []) h6x ?_ fuel (0, 0) h6
  intro s y5 h5 h3 h4
  obtain ⟨vq1, vq2⟩ := s
  have h5 : T_partIn_b1 t x1 x2 x3 x4 σ vq1 vq2 = some y5 := h5
  unfold T_partIn_b1 at h5
  show Gd X Y 0 σ [(0, .ref (adr Y t)), (1, .int x1), (2, .int x2), (3, .int x3), (4, .int x4), (5, .int vq1), (6, .int vq2)] 6 []
  refine g_iload hX d_T_partIn_6 6 rfl ?_
  refine g_aload_n hX d_T_partIn_8 0 rfl ?_
  refine g_getR hX (iwT ht) (shTt ht) rfl fl_T_18 d_T_partIn_9 ?_
  refine g_iload_n hX d_T_partIn_12 1 rfl ?_
  refine g_iaload hX (iwA3 ht) (shA3 ht) d_T_partIn_13 h5 (fun vq9 h10 => ?_)
  refine g_icmp_ge hX 57 d_T_partIn_14 (by decide) h10 (fun h11 => ?_) (fun h12 => ?_)
  · refine g_sub (lv2 := []) [] rfl ?_
    cases h11
    exact KX7  (h4 (.inl ()) rfl).symm
  · refine g_aload_n hX d_T_partIn_17 0 rfl ?_
    refine g_aload_n hX d_T_partIn_18 0 rfl ?_
    refine g_iload_n hX d_T_partIn_19 1 rfl ?_
    refine g_iload hX d_T_partIn_20 6 rfl ?_
    obtain ⟨vq13, h14, h15⟩ := obind h12
    refine g_callV hX [.int x1, .int vq2] [.ref (adr Y t)] mv_T_73 (c_T_part X.2.1 Y t x1 vq2 ht σ _ h14) (by decide) (iwT ht) (shTt ht) rfl rfl rfl (Nat.le_of_ble_eq_true rfl) d_T_partIn_22 (fun h16 => ?_)
    show Gd X Y 0 σ [(0, .ref (adr Y t)), (1, .int x1), (2, .int x2), (3, .int x3), (4, .int x4), (5, .int vq1), (6, .int vq2)] 25 [.int vq13, .ref (adr Y t)]
    refine g_iload_n hX d_T_partIn_25 2 rfl ?_
    obtain ⟨vq17, h18, h19⟩ := obind h15
    refine g_callV hX [.int vq13, .int x2] [] mv_T_97 (c_T_stateOf X.2.1 Y t vq13 x2 ht σ _ h18) (by decide) (iwT ht) (shTt ht) rfl rfl rfl (Nat.le_of_ble_eq_true rfl) d_T_partIn_26 (fun h20 => ?_)
    show Gd X Y 0 σ [(0, .ref (adr Y t)), (1, .int x1), (2, .int x2), (3, .int x3), (4, .int x4), (5, .int vq1), (6, .int vq2)] 29 [.int vq17]
    refine g_iload_n hX d_T_partIn_29 3 rfl ?_
    obtain ⟨h23x, h21, h22⟩ := obind h19
    have KJ22 : ∀ (vq26 : Int32) , h23x = .inl vq26 → Gd X Y 0 σ [(0, .ref (adr Y t)), (1, .int x1), (2, .int x2), (3, .int x3), (4, .int x4), (5, .int vq26), (6, .int vq2)] 51 [] := by
      intro vq26 h23
      subst h23
      dsimp only [Sum.elim_inl] at h22
      refine g_iinc hX (fun vq35 => [(6, .int vq35), (0, .ref (adr Y t)), (1, .int x1), (2, .int x2), (3, .int x3), (4, .int x4), (5, .int vq26)]) d_T_partIn_51 6 rfl rfl (by decide) (fun _ => rfl) h22 (fun vq35 h36 => ?_)
      refine g_goto hX 6 d_T_partIn_54 (by decide) ?_
      refine g_sub (lv2 := [(0, .ref (adr Y t)), (1, .int x1), (2, .int x2), (3, .int x3), (4, .int x4), (5, .int vq26), (6, .int vq35)]) [1, 2, 3, 4, 5, 6, 0] rfl ?_
      cases h36
      exact h3 (vq26, vq35) rfl
    refine g_icmp_ne hX 51 d_T_partIn_30 (by decide) h21 (fun h24 => ?_) (fun h25 => ?_)
    · refine g_sub (lv2 := [(0, .ref (adr Y t)), (1, .int x1), (2, .int x2), (3, .int x3), (4, .int x4), (5, .int vq1), (6, .int vq2)]) [0, 1, 2, 3, 4, 5, 6] rfl ?_
      cases h24
      exact KJ22 _ rfl
    · refine g_iload hX d_T_partIn_33 5 rfl ?_
      refine g_iload hX d_T_partIn_35 4 rfl ?_
      refine g_icmp_ne hX 48 d_T_partIn_37 (by decide) h25 (fun h27 => ?_) (fun h28 => ?_)
      · refine g_iinc hX (fun vq29 => [(5, .int vq29), (0, .ref (adr Y t)), (1, .int x1), (2, .int x2), (3, .int x3), (4, .int x4), (6, .int vq2)]) d_T_partIn_48 5 rfl rfl (by decide) (fun _ => rfl) h27 (fun vq29 h30 => ?_)
        refine g_sub (lv2 := [(0, .ref (adr Y t)), (1, .int x1), (2, .int x2), (3, .int x3), (4, .int x4), (5, .int vq29), (6, .int vq2)]) [1, 2, 3, 4, 5, 0, 6] rfl ?_
        cases h30
        exact KJ22 _ rfl
      · refine g_aload_n hX d_T_partIn_40 0 rfl ?_
        refine g_iload_n hX d_T_partIn_41 1 rfl ?_
        refine g_iload hX d_T_partIn_42 6 rfl ?_
        obtain ⟨vq31, h32, h33⟩ := obind h28
        refine g_callV hX [.int x1, .int vq2] [] mv_T_73 (c_T_part X.2.1 Y t x1 vq2 ht σ _ h32) (by decide) (iwT ht) (shTt ht) rfl rfl rfl (Nat.le_of_ble_eq_true rfl) d_T_partIn_44 (fun h34 => ?_)
        show Gd X Y 0 σ [(0, .ref (adr Y t)), (1, .int x1), (2, .int x2), (3, .int x3), (4, .int x4), (5, .int vq1), (6, .int vq2)] 47 [.int vq31]
        cases h33
        dsimp only [Sum.elim_inr] at h22
        cases h22
        have h8 := h4 (.inr vq31) rfl
        subst h8
        dsimp only [Sum.elim_inr] at h7
        cases h7
        exact g_ireturn hX hR d_T_partIn_47
noncomputable def T_hold (t : Nat) (x1 : Int32) (σ : Mem) : Option (Mem) := lt (if x1 = (-1) then false else if 8 ≤ (σ t 9) then false else true : Bool) (fun bq1 => ((if bq1 = true then (wr σ (t + 6) (σ t 9) x1).bind (fun σ13 => lt (mput σ13 t 9 ((σ13 t 9) + 1)) (fun σ15 => some σ15)) else some σ : Option (Mem))).bind (fun σ17 => some σ17))
set_option maxHeartbeats 4000000 in
set_option maxRecDepth 100000 in
theorem c_T_hold (l : Launch) (Y : Wx) (t : Nat) (x1 : Int32) (ht : isT t) (σ : Mem) (o : Mem) (hf : T_hold t x1 σ = some o) : Ct l Y 0 y_T_hold b_T_hold 2 none 0 [.ref (adr Y t), .int x1] σ none o := by
  unfold T_hold at hf
  refine ct_of (by decide) (Nat.le_of_ble_eq_true rfl) rfl (fun X hXl hX hR => ?_)
  subst hXl
  have hX : Fx X Y 0 b_T_hold 2 R_T 0 := hX
  refine g_iload_n hX d_T_hold_0 1 rfl ?_
  refine g_iconst hX (-1) d_T_hold_1 (by decide) ?_
  obtain ⟨bq1, h2, h3⟩ := ltex hf
  obtain ⟨σ17, h8, h9⟩ := obind h3
  have KJ9 : Gd X Y 0 σ17 [] 34 [] := by
    cases h9
    exact g_return hX hR d_T_hold_34
  have Kbq1t : bq1 = true → Gd X Y 0 σ [(0, .ref (adr Y t)), (1, .int x1)] 14 [] := by
    intro h18
    have h11 := (if_pos h18).symm.trans h8
    refine g_aload_n hX d_T_hold_14 0 rfl ?_
    refine g_getR hX (iwT ht) (shTt ht) rfl fl_T_37 d_T_hold_15 ?_
    refine g_aload_n hX d_T_hold_18 0 rfl ?_
    refine g_getI hX (iwT ht) (shTt ht) rfl fl_T_40.f d_T_hold_19 ?_
    refine g_iload_n hX d_T_hold_22 1 rfl ?_
    refine g_iastore hX (iwA6 ht) (shA6 ht) d_T_hold_23 h11 (fun σ13 h14 => ?_)
    refine g_aload_n hX d_T_hold_24 0 rfl ?_
    refine g_dup hX d_T_hold_25 rfl ?_
    refine g_getI hX (iwT ht) (shTt ht) rfl fl_T_40.f d_T_hold_26 ?_
    refine g_iconst hX 1 d_T_hold_29 (by decide) ?_
    refine g_iadd hX d_T_hold_30 ?_
    refine g_putI hX (iwT ht) (shTt ht) rfl fl_T_40 d_T_hold_31 h14 (fun σ15 h16 => ?_)
    refine g_sub (lv2 := []) [] rfl ?_
    cases h16
    exact KJ9
  have Kbq1f : ¬ bq1 = true → Gd X Y 0 σ [(0, .ref (adr Y t)), (1, .int x1)] 34 [] := by
    intro h18
    have h12 := (if_neg h18).symm.trans h8
    refine g_sub (lv2 := []) [] rfl ?_
    cases h12
    exact KJ9
  refine g_icmp_eq hX 34 d_T_hold_2 (by decide) h2 (fun h4 => ?_) (fun h5 => ?_)
  · cases h4
    exact Kbq1f (by decide)
  · refine g_aload_n hX d_T_hold_5 0 rfl ?_
    refine g_getI hX (iwT ht) (shTt ht) rfl fl_T_40.f d_T_hold_6 ?_
    refine g_bipush hX 8 d_T_hold_9 (by decide) ?_
    refine g_icmp_ge hX 34 d_T_hold_11 (by decide) h5 (fun h6 => ?_) (fun h7 => ?_)
    · cases h6
      exact Kbq1f (by decide)
    · cases h7
      exact Kbq1t rfl
noncomputable def T_markSplit (t : Nat) (x1 : Int32) (σ : Mem) : Option (Mem) := ((if 7 ≤ (σ t 11) then some σ else (wr σ (t + 7) (σ t 11) x1).bind (fun σ7 => lt (mput σ7 t 11 ((σ7 t 11) + 1)) (fun σ9 => some σ9)) : Option (Mem))).bind (fun σ6 => some σ6)
set_option maxHeartbeats 4000000 in
set_option maxRecDepth 100000 in
theorem c_T_markSplit (l : Launch) (Y : Wx) (t : Nat) (x1 : Int32) (ht : isT t) (σ : Mem) (o : Mem) (hf : T_markSplit t x1 σ = some o) : Ct l Y 0 y_T_markSplit b_T_markSplit 2 none 0 [.ref (adr Y t), .int x1] σ none o := by
  unfold T_markSplit at hf
  refine ct_of (by decide) (Nat.le_of_ble_eq_true rfl) rfl (fun X hXl hX hR => ?_)
  subst hXl
  have hX : Fx X Y 0 b_T_markSplit 2 R_T 0 := hX
  refine g_aload_n hX d_T_markSplit_0 0 rfl ?_
  refine g_getI hX (iwT ht) (shTt ht) rfl fl_T_46.f d_T_markSplit_1 ?_
  refine g_bipush hX 7 d_T_markSplit_4 (by decide) ?_
  obtain ⟨σ6, h1, h2⟩ := obind hf
  have KJ2 : Gd X Y 0 σ6 [] 29 [] := by
    cases h2
    exact g_return hX hR d_T_markSplit_29
  refine g_icmp_ge hX 29 d_T_markSplit_6 (by decide) h1 (fun h4 => ?_) (fun h5 => ?_)
  · refine g_sub (lv2 := []) [] rfl ?_
    cases h4
    exact KJ2
  · refine g_aload_n hX d_T_markSplit_9 0 rfl ?_
    refine g_getR hX (iwT ht) (shTt ht) rfl fl_T_43 d_T_markSplit_10 ?_
    refine g_aload_n hX d_T_markSplit_13 0 rfl ?_
    refine g_getI hX (iwT ht) (shTt ht) rfl fl_T_46.f d_T_markSplit_14 ?_
    refine g_iload_n hX d_T_markSplit_17 1 rfl ?_
    refine g_iastore hX (iwA7 ht) (shA7 ht) d_T_markSplit_18 h5 (fun σ7 h8 => ?_)
    refine g_aload_n hX d_T_markSplit_19 0 rfl ?_
    refine g_dup hX d_T_markSplit_20 rfl ?_
    refine g_getI hX (iwT ht) (shTt ht) rfl fl_T_46.f d_T_markSplit_21 ?_
    refine g_iconst hX 1 d_T_markSplit_24 (by decide) ?_
    refine g_iadd hX d_T_markSplit_25 ?_
    refine g_putI hX (iwT ht) (shTt ht) rfl fl_T_46 d_T_markSplit_26 h8 (fun σ9 h10 => ?_)
    refine g_sub (lv2 := []) [] rfl ?_
    cases h10
    exact KJ2
noncomputable def T_splitTurning_b1 (t : Nat) (x1 : Int32) (x2 : Int32) (vq3 : Int32) (vq45 : Int32) (vq46 : Int32) (σ47 : Mem) : Option ((Int32 × Int32 × Mem) ⊕ ((Mem) ⊕ (Int32 × Mem))) := if vq3 < vq46 then some (.inr (.inl σ47)) else (T_part t x1 vq46 σ47).bind (fun vq57 => (T_stateOf t vq57 x2 σ47).bind (fun vq61 => if vq45 ≤ vq61 then ((if vq61 = 0 then (T_part t x1 vq46 σ47).bind (fun vq73 => (T_append t vq73 σ47).bind (fun σ77 => some σ77)) else some σ47 : Option (Mem))).bind (fun σ72 => lt (vq46 + 1) (fun vq81 => some (.inl (vq61, vq81, σ72)))) else some (.inr (.inr (0, σ47)))))
noncomputable def T_splitTurning_b2 (t : Nat) (x1 : Int32) (x2 : Int32) (vq83 : Int32) (σ84 : Mem) : Option ((Int32 × Mem) ⊕ (Mem)) := ((if vq83 < 0 then some false else (T_part t x1 vq83 σ84).bind (fun vq97 => (T_stateOf t vq97 x2 σ84).bind (fun vq101 => if vq101 = 2 then some true else some false)) : Option (Bool))).bind (fun bq92 => if bq92 = true then (T_part t x1 vq83 σ84).bind (fun vq109 => (T_hold t vq109 σ84).bind (fun σ113 => lt (vq83 + (-1)) (fun vq117 => some (.inl (vq117, σ113))))) else some (.inr σ84))
noncomputable def T_splitTurning (t : Nat) (x1 : Int32) (x2 : Int32) (σ : Mem) : Option (Int32 × Mem) := (rd σ (t + 3) x1).bind (fun vq1 => lt (vq1 - 1) (fun vq3 => (T_part t x1 0 σ).bind (fun vq5 => (T_stateOf t vq5 x2 σ).bind (fun vq9 => ((if vq9 = 0 then some true else (T_part t x1 vq3 σ).bind (fun vq18 => (T_stateOf t vq18 x2 σ).bind (fun vq22 => if vq22 = 2 then some true else some false)) : Option (Bool))).bind (fun bq13 => lt (if bq13 = true then 1 else 0 : Int32) (fun vq33 => ((if vq33 = 0 then (T_turn (t + 4) (x1 * 8) ((x1 * 8) + vq3) σ).bind (fun σ41 => some σ41) else some σ : Option (Mem))).bind (fun σ40 => (lp (fun s => T_splitTurning_b1 t x1 x2 vq3 s.1 s.2.1 s.2.2) fuel (0, 0, σ40)).bind (fun x => Sum.elim (fun σ48 => (lp (fun s => T_splitTurning_b2 t x1 x2 s.1 s.2) fuel (vq3, σ48)).bind (fun σ85 => some (1, σ85))) (fun z => some z) x))))))))
set_option maxHeartbeats 4000000 in
set_option maxRecDepth 100000 in
theorem c_T_splitTurning (l : Launch) (Y : Wx) (t : Nat) (x1 : Int32) (x2 : Int32) (ht : isT t) (σ : Mem) (o : Int32 × Mem) (hf : T_splitTurning t x1 x2 σ = some o) : Ct l Y 0 y_T_splitTurning b_T_splitTurning 8 (some .boolean) 1 [.ref (adr Y t), .int x1, .int x2] σ (some (.int o.1)) o.2 := by
  unfold T_splitTurning at hf
  refine ct_of (by decide) (Nat.le_of_ble_eq_true rfl) rfl (fun X hXl hX hR => ?_)
  subst hXl
  have hX : Fx X Y 0 b_T_splitTurning 8 R_T 1 := hX
  refine g_aload_n hX d_T_splitTurning_0 0 rfl ?_
  refine g_getR hX (iwT ht) (shTt ht) rfl fl_T_18 d_T_splitTurning_1 ?_
  refine g_iload_n hX d_T_splitTurning_4 1 rfl ?_
  refine g_iaload hX (iwA3 ht) (shA3 ht) d_T_splitTurning_5 hf (fun vq1 h2 => ?_)
  refine g_iconst hX 1 d_T_splitTurning_6 (by decide) ?_
  refine g_isub hX d_T_splitTurning_7 ?_
  refine g_istore_n hX (fun vq3 => [(3, .int vq3), (0, .ref (adr Y t)), (1, .int x1), (2, .int x2)]) d_T_splitTurning_8 (by decide) (fun _ => rfl) h2 (fun vq3 h4 => ?_)
  refine g_aload_n hX d_T_splitTurning_9 1 rfl ?_
  refine g_aload_n hX d_T_splitTurning_10 1 rfl ?_
  refine g_iload_n hX d_T_splitTurning_11 2 rfl ?_
  refine g_iconst hX 0 d_T_splitTurning_12 (by decide) ?_
  obtain ⟨vq5, h6, h7⟩ := obind h4
  refine g_callV hX [.int x1, .int 0] [.ref (adr Y t)] mv_T_73 (c_T_part X.2.1 Y t x1 0 ht σ _ h6) (by decide) (iwT ht) (shTt ht) rfl rfl rfl (Nat.le_of_ble_eq_true rfl) d_T_splitTurning_13 (fun h8 => ?_)
  show Gd X Y 0 σ [(3, .int vq3), (0, .ref (adr Y t)), (1, .int x1), (2, .int x2)] 16 [.int vq5, .ref (adr Y t)]
  refine g_iload_n hX d_T_splitTurning_16 3 rfl ?_
  obtain ⟨vq9, h10, h11⟩ := obind h7
  refine g_callV hX [.int vq5, .int x2] [] mv_T_97 (c_T_stateOf X.2.1 Y t vq5 x2 ht σ _ h10) (by decide) (iwT ht) (shTt ht) rfl rfl rfl (Nat.le_of_ble_eq_true rfl) d_T_splitTurning_17 (fun h12 => ?_)
  show Gd X Y 0 σ [(3, .int vq3), (0, .ref (adr Y t)), (1, .int x1), (2, .int x2)] 20 [.int vq9]
  obtain ⟨bq13, h14, h15⟩ := obind h11
  obtain ⟨vq33, h28, h29⟩ := ltex h15
  have KJ29 : okR (some .boolean) (some (.int vq33)) → Gd X Y 0 σ [(0, .ref (adr Y t)), (1, .int x1), (2, .int x2), (3, .int vq3)] 43 [.int vq33] := by
    intro hbvq33
    refine g_istoreV hX [(4, .int vq33), (0, .ref (adr Y t)), (1, .int x1), (2, .int x2), (3, .int vq3)] d_T_splitTurning_43 (by decide) rfl ?_
    refine g_iload hX d_T_splitTurning_45 0 rfl ?_
    obtain ⟨σ40, h35, h36⟩ := obind h29
    have KJ36 : Gd X Y 0 σ40 [(0, .ref (adr Y t)), (1, .int x1), (2, .int x2), (3, .int vq3)] 67 [] := by
      refine g_iconst hX 0 d_T_splitTurning_67 (by decide) ?_
      refine g_istoreV hX [(5, .int 0), (0, .ref (adr Y t)), (1, .int x1), (2, .int x2), (3, .int vq3)] d_T_splitTurning_68 (by decide) rfl ?_
      refine g_iconst hX 0 d_T_splitTurning_70 (by decide) ?_
      refine g_istoreV hX [(6, .int 0), (5, .int 0), (0, .ref (adr Y t)), (1, .int x1), (2, .int x2), (3, .int vq3)] d_T_splitTurning_71 (by decide) rfl ?_
      obtain ⟨h52x, h52, h53⟩ := obind h36
      have KX53 : ∀ (σ48 : Mem) , h52x = .inl σ48 → Gd X Y 0 σ48 [(0, .ref (adr Y t)), (1, .int x1), (2, .int x2), (3, .int vq3)] 128 [] := by
        intro σ48 h54
        subst h54
        dsimp only [Sum.elim_inl] at h53
        refine g_iload_n hX d_T_splitTurning_128 3 rfl ?_
        refine g_istoreV hX [(6, .int vq3), (0, .ref (adr Y t)), (1, .int x1), (2, .int x2), (3, .int vq3)] d_T_splitTurning_129 (by decide) rfl ?_
        obtain ⟨σ85, h89, h90⟩ := obind h53
        have KX90 : Gd X Y 0 σ85 [] 169 [] := by
          refine g_iconst hX 1 d_T_splitTurning_169 (by decide) ?_
          cases h90
          exact g_zreturn hX hR okB1 d_T_splitTurning_170
        refine g_sub (lv2 := [(0, .ref (adr Y t)), (1, .int x1), (2, .int x2), (6, .int vq3)]) [1, 2, 3, 0] rfl ?_
        refine g_loop (fun s => T_splitTurning_b2 t x1 x2 s.1 s.2) (fun s => Gd X Y 0 s.2 [(0, .ref (adr Y t)), (1, .int x1), (2, .int x2), (6, .int s.1)] 131 []) σ85 ?_ fuel (vq3, σ48) h89
        intro s y88 h88 h86 h87
        obtain ⟨vq83, σ84⟩ := s
        have h88 : T_splitTurning_b2 t x1 x2 vq83 σ84 = some y88 := h88
        unfold T_splitTurning_b2 at h88
        show Gd X Y 0 σ84 [(0, .ref (adr Y t)), (1, .int x1), (2, .int x2), (6, .int vq83)] 131 []
        refine g_iload hX d_T_splitTurning_131 3 rfl ?_
        obtain ⟨bq92, h93, h94⟩ := obind h88
        have Kbq92t : bq92 = true → Gd X Y 0 σ84 [(0, .ref (adr Y t)), (1, .int x1), (2, .int x2), (6, .int vq83)] 152 [] := by
          intro h119
          have h107 := (if_pos h119).symm.trans h94
          refine g_aload_n hX d_T_splitTurning_152 0 rfl ?_
          refine g_aload_n hX d_T_splitTurning_153 0 rfl ?_
          refine g_iload_n hX d_T_splitTurning_154 1 rfl ?_
          refine g_iload hX d_T_splitTurning_155 3 rfl ?_
          obtain ⟨vq109, h110, h111⟩ := obind h107
          refine g_callV hX [.int x1, .int vq83] [.ref (adr Y t)] mv_T_73 (c_T_part X.2.1 Y t x1 vq83 ht σ84 _ h110) (by decide) (iwT ht) (shTt ht) rfl rfl rfl (Nat.le_of_ble_eq_true rfl) d_T_splitTurning_157 (fun h112 => ?_)
          show Gd X Y 0 σ84 [(0, .ref (adr Y t)), (1, .int x1), (2, .int x2), (6, .int vq83)] 160 [.int vq109, .ref (adr Y t)]
          obtain ⟨σ113, h114, h115⟩ := obind h111
          refine g_callV hX [.int vq109] [] mv_T_135 (c_T_hold X.2.1 Y t vq109 ht σ84 _ h114) (by decide) (iwT ht) (shTt ht) rfl rfl rfl (Nat.le_of_ble_eq_true rfl) d_T_splitTurning_160 (fun h116 => ?_)
          show Gd X Y 0 σ113 [(0, .ref (adr Y t)), (1, .int x1), (2, .int x2), (6, .int vq83)] 163 []
          refine g_iinc hX (fun vq117 => [(6, .int vq117), (0, .ref (adr Y t)), (1, .int x1), (2, .int x2)]) d_T_splitTurning_163 3 rfl rfl (by decide) (fun _ => rfl) h115 (fun vq117 h118 => ?_)
          refine g_goto hX 131 d_T_splitTurning_166 (by decide) ?_
          refine g_sub (lv2 := [(0, .ref (adr Y t)), (1, .int x1), (2, .int x2), (6, .int vq117)]) [1, 2, 3, 0] rfl ?_
          cases h118
          exact h86 (vq117, σ113) rfl
        have Kbq92f : ¬ bq92 = true → Gd X Y 0 σ84 [(0, .ref (adr Y t)), (1, .int x1), (2, .int x2), (6, .int vq83)] 169 [] := by
          intro h119
          have h108 := (if_neg h119).symm.trans h94
          refine g_sub (lv2 := []) [] rfl ?_
          cases h108
          have h91 := h87 σ84 rfl
          cases h91
          exact KX90
        refine g_if_lt hX 169 d_T_splitTurning_133 (by decide) h93 (fun h95 => ?_) (fun h96 => ?_)
        · cases h95
          exact Kbq92f (by decide)
        · refine g_aload_n hX d_T_splitTurning_136 0 rfl ?_
          refine g_aload_n hX d_T_splitTurning_137 0 rfl ?_
          refine g_iload_n hX d_T_splitTurning_138 1 rfl ?_
          refine g_iload hX d_T_splitTurning_139 3 rfl ?_
          obtain ⟨vq97, h98, h99⟩ := obind h96
          refine g_callV hX [.int x1, .int vq83] [.ref (adr Y t)] mv_T_73 (c_T_part X.2.1 Y t x1 vq83 ht σ84 _ h98) (by decide) (iwT ht) (shTt ht) rfl rfl rfl (Nat.le_of_ble_eq_true rfl) d_T_splitTurning_141 (fun h100 => ?_)
          show Gd X Y 0 σ84 [(0, .ref (adr Y t)), (1, .int x1), (2, .int x2), (6, .int vq83)] 144 [.int vq97, .ref (adr Y t)]
          refine g_iload_n hX d_T_splitTurning_144 2 rfl ?_
          obtain ⟨vq101, h102, h103⟩ := obind h99
          refine g_callV hX [.int vq97, .int x2] [] mv_T_97 (c_T_stateOf X.2.1 Y t vq97 x2 ht σ84 _ h102) (by decide) (iwT ht) (shTt ht) rfl rfl rfl (Nat.le_of_ble_eq_true rfl) d_T_splitTurning_145 (fun h104 => ?_)
          show Gd X Y 0 σ84 [(0, .ref (adr Y t)), (1, .int x1), (2, .int x2), (6, .int vq83)] 148 [.int vq101]
          refine g_iconst hX 2 d_T_splitTurning_148 (by decide) ?_
          refine g_icmp_ne hX 169 d_T_splitTurning_149 (by decide) h103 (fun h105 => ?_) (fun h106 => ?_)
          · cases h105
            exact Kbq92f (by decide)
          · cases h106
            exact Kbq92t rfl
      refine g_sub (lv2 := [(0, .ref (adr Y t)), (1, .int x1), (2, .int x2), (3, .int vq3), (5, .int 0), (6, .int 0)]) [2, 3, 4, 5, 1, 0] rfl ?_
      refine g_loop (fun s => T_splitTurning_b1 t x1 x2 vq3 s.1 s.2.1 s.2.2) (fun s => Gd X Y 0 s.2.2 [(0, .ref (adr Y t)), (1, .int x1), (2, .int x2), (3, .int vq3), (5, .int s.1), (6, .int s.2.1)] 73 []) h52x ?_ fuel (0, 0, σ40) h52
      intro s y51 h51 h49 h50
      obtain ⟨vq45, vq46, σ47⟩ := s
      have h51 : T_splitTurning_b1 t x1 x2 vq3 vq45 vq46 σ47 = some y51 := h51
      unfold T_splitTurning_b1 at h51
      show Gd X Y 0 σ47 [(0, .ref (adr Y t)), (1, .int x1), (2, .int x2), (3, .int vq3), (5, .int vq45), (6, .int vq46)] 73 []
      refine g_iload hX d_T_splitTurning_73 5 rfl ?_
      refine g_iload_n hX d_T_splitTurning_75 3 rfl ?_
      refine g_icmp_gt hX 128 d_T_splitTurning_76 (by decide) h51 (fun h55 => ?_) (fun h56 => ?_)
      · refine g_sub (lv2 := [(0, .ref (adr Y t)), (1, .int x1), (2, .int x2), (3, .int vq3)]) [0, 1, 2, 3] rfl ?_
        cases h55
        exact KX53 σ47 (h50 (.inl σ47) rfl).symm
      · refine g_aload_n hX d_T_splitTurning_79 0 rfl ?_
        refine g_aload_n hX d_T_splitTurning_80 0 rfl ?_
        refine g_iload_n hX d_T_splitTurning_81 1 rfl ?_
        refine g_iload hX d_T_splitTurning_82 5 rfl ?_
        obtain ⟨vq57, h58, h59⟩ := obind h56
        refine g_callV hX [.int x1, .int vq46] [.ref (adr Y t)] mv_T_73 (c_T_part X.2.1 Y t x1 vq46 ht σ47 _ h58) (by decide) (iwT ht) (shTt ht) rfl rfl rfl (Nat.le_of_ble_eq_true rfl) d_T_splitTurning_84 (fun h60 => ?_)
        show Gd X Y 0 σ47 [(0, .ref (adr Y t)), (1, .int x1), (2, .int x2), (3, .int vq3), (5, .int vq45), (6, .int vq46)] 87 [.int vq57, .ref (adr Y t)]
        refine g_iload_n hX d_T_splitTurning_87 2 rfl ?_
        obtain ⟨vq61, h62, h63⟩ := obind h59
        refine g_callV hX [.int vq57, .int x2] [] mv_T_97 (c_T_stateOf X.2.1 Y t vq57 x2 ht σ47 _ h62) (by decide) (iwT ht) (shTt ht) rfl rfl rfl (Nat.le_of_ble_eq_true rfl) d_T_splitTurning_88 (fun h64 => ?_)
        show Gd X Y 0 σ47 [(0, .ref (adr Y t)), (1, .int x1), (2, .int x2), (3, .int vq3), (5, .int vq45), (6, .int vq46)] 91 [.int vq61]
        refine g_istoreV hX [(7, .int vq61), (0, .ref (adr Y t)), (1, .int x1), (2, .int x2), (3, .int vq3), (5, .int vq45), (6, .int vq46)] d_T_splitTurning_91 (by decide) rfl ?_
        refine g_iload hX d_T_splitTurning_93 0 rfl ?_
        refine g_iload hX d_T_splitTurning_95 5 rfl ?_
        refine g_icmp_ge hX 102 d_T_splitTurning_97 (by decide) h63 (fun h65 => ?_) (fun h66 => ?_)
        · refine g_iload hX d_T_splitTurning_102 0 rfl ?_
          refine g_istoreV hX [(5, .int vq61), (7, .int vq61), (0, .ref (adr Y t)), (1, .int x1), (2, .int x2), (3, .int vq3), (6, .int vq46)] d_T_splitTurning_104 (by decide) rfl ?_
          refine g_iload hX d_T_splitTurning_106 1 rfl ?_
          obtain ⟨σ72, h67, h68⟩ := obind h65
          have KJ68 : Gd X Y 0 σ72 [(0, .ref (adr Y t)), (1, .int x1), (2, .int x2), (3, .int vq3), (5, .int vq61), (6, .int vq46)] 122 [] := by
            refine g_iinc hX (fun vq81 => [(6, .int vq81), (0, .ref (adr Y t)), (1, .int x1), (2, .int x2), (3, .int vq3), (5, .int vq61)]) d_T_splitTurning_122 5 rfl rfl (by decide) (fun _ => rfl) h68 (fun vq81 h82 => ?_)
            refine g_goto hX 73 d_T_splitTurning_125 (by decide) ?_
            refine g_sub (lv2 := [(0, .ref (adr Y t)), (1, .int x1), (2, .int x2), (3, .int vq3), (5, .int vq61), (6, .int vq81)]) [1, 2, 3, 4, 5, 0] rfl ?_
            cases h82
            exact h49 (vq61, vq81, σ72) rfl
          refine g_if_ne hX 122 d_T_splitTurning_108 (by decide) h67 (fun h70 => ?_) (fun h71 => ?_)
          · refine g_sub (lv2 := [(0, .ref (adr Y t)), (1, .int x1), (2, .int x2), (3, .int vq3), (5, .int vq61), (6, .int vq46)]) [2, 3, 4, 5, 0, 6] rfl ?_
            cases h70
            exact KJ68
          · refine g_aload_n hX d_T_splitTurning_111 2 rfl ?_
            refine g_aload_n hX d_T_splitTurning_112 2 rfl ?_
            refine g_iload_n hX d_T_splitTurning_113 3 rfl ?_
            refine g_iload hX d_T_splitTurning_114 6 rfl ?_
            obtain ⟨vq73, h74, h75⟩ := obind h71
            refine g_callV hX [.int x1, .int vq46] [.ref (adr Y t)] mv_T_73 (c_T_part X.2.1 Y t x1 vq46 ht σ47 _ h74) (by decide) (iwT ht) (shTt ht) rfl rfl rfl (Nat.le_of_ble_eq_true rfl) d_T_splitTurning_116 (fun h76 => ?_)
            show Gd X Y 0 σ47 [(5, .int vq61), (7, .int vq61), (0, .ref (adr Y t)), (1, .int x1), (2, .int x2), (3, .int vq3), (6, .int vq46)] 119 [.int vq73, .ref (adr Y t)]
            obtain ⟨σ77, h78, h79⟩ := obind h75
            refine g_callV hX [.int vq73] [] mv_T_122 (c_T_append X.2.1 Y t vq73 ht σ47 _ h78) (by decide) (iwT ht) (shTt ht) rfl rfl rfl (Nat.le_of_ble_eq_true rfl) d_T_splitTurning_119 (fun h80 => ?_)
            show Gd X Y 0 σ77 [(5, .int vq61), (7, .int vq61), (0, .ref (adr Y t)), (1, .int x1), (2, .int x2), (3, .int vq3), (6, .int vq46)] 122 []
            refine g_sub (lv2 := [(0, .ref (adr Y t)), (1, .int x1), (2, .int x2), (3, .int vq3), (5, .int vq61), (6, .int vq46)]) [2, 3, 4, 5, 0, 6] rfl ?_
            cases h79
            exact KJ68
        · refine g_iconst hX 0 d_T_splitTurning_100 (by decide) ?_
          cases h66
          have h54 := h50 (.inr (0, σ47)) rfl
          subst h54
          dsimp only [Sum.elim_inr] at h53
          cases h53
          exact g_zreturn hX hR okB0 d_T_splitTurning_101
    refine g_if_ne hX 67 d_T_splitTurning_47 (by decide) h35 (fun h38 => ?_) (fun h39 => ?_)
    · refine g_sub (lv2 := [(0, .ref (adr Y t)), (1, .int x1), (2, .int x2), (3, .int vq3)]) [1, 2, 3, 4] rfl ?_
      cases h38
      exact KJ36
    · refine g_aload_n hX d_T_splitTurning_50 1 rfl ?_
      refine g_getR hX (iwT ht) (shTt ht) rfl fl_T_21 d_T_splitTurning_51 ?_
      refine g_iload_n hX d_T_splitTurning_54 2 rfl ?_
      refine g_bipush hX 8 d_T_splitTurning_55 (by decide) ?_
      refine g_imul hX d_T_splitTurning_57 ?_
      refine g_iload_n hX d_T_splitTurning_58 2 rfl ?_
      refine g_bipush hX 8 d_T_splitTurning_59 (by decide) ?_
      refine g_imul hX d_T_splitTurning_61 ?_
      refine g_iload_n hX d_T_splitTurning_62 4 rfl ?_
      refine g_iadd hX d_T_splitTurning_63 ?_
      obtain ⟨σ41, h42, h43⟩ := obind h39
      refine g_callS hX [.ref (adr Y (t + 4)), .int (x1 * 8), .int ((x1 * 8) + vq3)] [] mv_T_81 (c_T_turn X.2.1 Y (t + 4) (x1 * 8) ((x1 * 8) + vq3) (isA4 ht) σ _ h42) (by decide) rfl rfl (Nat.le_of_ble_eq_true rfl) d_T_splitTurning_64 (fun h44 => ?_)
      show Gd X Y 0 σ41 [(4, .int vq33), (0, .ref (adr Y t)), (1, .int x1), (2, .int x2), (3, .int vq3)] 67 []
      refine g_sub (lv2 := [(0, .ref (adr Y t)), (1, .int x1), (2, .int x2), (3, .int vq3)]) [1, 2, 3, 4] rfl ?_
      cases h43
      exact KJ36
  have Kbq13t : bq13 = true → Gd X Y 0 σ [(3, .int vq3), (0, .ref (adr Y t)), (1, .int x1), (2, .int x2)] 38 [] := by
    intro h34
    have h31 := (if_pos h34).symm.trans h28
    refine g_iconst hX 1 d_T_splitTurning_38 (by decide) ?_
    refine g_goto hX 43 d_T_splitTurning_39 (by decide) ?_
    refine g_sub (lv2 := [(0, .ref (adr Y t)), (1, .int x1), (2, .int x2), (3, .int vq3)]) [1, 2, 3, 0] rfl ?_
    cases h31
    exact KJ29 okB1
  have Kbq13f : ¬ bq13 = true → Gd X Y 0 σ [(3, .int vq3), (0, .ref (adr Y t)), (1, .int x1), (2, .int x2)] 42 [] := by
    intro h34
    have h32 := (if_neg h34).symm.trans h28
    refine g_iconst hX 0 d_T_splitTurning_42 (by decide) ?_
    refine g_sub (lv2 := [(0, .ref (adr Y t)), (1, .int x1), (2, .int x2), (3, .int vq3)]) [1, 2, 3, 0] rfl ?_
    cases h32
    exact KJ29 okB0
  refine g_if_eq hX 38 d_T_splitTurning_20 (by decide) h14 (fun h16 => ?_) (fun h17 => ?_)
  · cases h16
    exact Kbq13t rfl
  · refine g_aload_n hX d_T_splitTurning_23 1 rfl ?_
    refine g_aload_n hX d_T_splitTurning_24 1 rfl ?_
    refine g_iload_n hX d_T_splitTurning_25 2 rfl ?_
    refine g_iload_n hX d_T_splitTurning_26 0 rfl ?_
    obtain ⟨vq18, h19, h20⟩ := obind h17
    refine g_callV hX [.int x1, .int vq3] [.ref (adr Y t)] mv_T_73 (c_T_part X.2.1 Y t x1 vq3 ht σ _ h19) (by decide) (iwT ht) (shTt ht) rfl rfl rfl (Nat.le_of_ble_eq_true rfl) d_T_splitTurning_27 (fun h21 => ?_)
    show Gd X Y 0 σ [(3, .int vq3), (0, .ref (adr Y t)), (1, .int x1), (2, .int x2)] 30 [.int vq18, .ref (adr Y t)]
    refine g_iload_n hX d_T_splitTurning_30 3 rfl ?_
    obtain ⟨vq22, h23, h24⟩ := obind h20
    refine g_callV hX [.int vq18, .int x2] [] mv_T_97 (c_T_stateOf X.2.1 Y t vq18 x2 ht σ _ h23) (by decide) (iwT ht) (shTt ht) rfl rfl rfl (Nat.le_of_ble_eq_true rfl) d_T_splitTurning_31 (fun h25 => ?_)
    show Gd X Y 0 σ [(3, .int vq3), (0, .ref (adr Y t)), (1, .int x1), (2, .int x2)] 34 [.int vq22]
    refine g_iconst hX 2 d_T_splitTurning_34 (by decide) ?_
    refine g_icmp_ne hX 42 d_T_splitTurning_35 (by decide) h24 (fun h26 => ?_) (fun h27 => ?_)
    · cases h26
      exact Kbq13f (by decide)
    · cases h27
      exact Kbq13t rfl
noncomputable def T_splitToLine_b1 (t : Nat) (x2 : Int32) (vq5 : Int32) (vq6 : Int32) (σ7 : Mem) : Option ((Int32 × Int32 × Mem) ⊕ ((Mem) ⊕ (Int32 × Mem))) := lt (if 8 ≤ vq6 then false else if vq5 = (-1) then false else true : Bool) (fun bq15 => if bq15 = true then (T_partIn t vq5 x2 1 0 σ7).bind (fun vq24 => (T_partIn t vq5 x2 1 1 σ7).bind (fun vq28 => if vq28 = (-1) then (rd σ7 (t + 1) vq5).bind (fun vq34 => ((if vq34 = 0 then (T_bundle t vq5 x2 0 σ7).bind (fun q => lt q.1 (fun vq49 => lt q.2 (fun σ50 => (T_append t vq49 σ50).bind (fun σ54 => (T_bundle t vq5 x2 2 σ54).bind (fun q => lt q.1 (fun vq58 => lt q.2 (fun σ59 => (T_hold t vq58 σ59).bind (fun σ63 => some (.inl σ63))))))))) else (T_splitTurning t vq5 x2 σ7).bind (fun q => lt q.1 (fun vq41 => lt q.2 (fun σ42 => if vq41 = 0 then some (.inr (.inr (.inr (0, σ42)))) else some (.inl σ42)))) : Option ((Mem) ⊕ ((Int32 × Int32 × Mem) ⊕ ((Mem) ⊕ (Int32 × Mem)))))).bind (fun x => Sum.elim (fun σ48 => (T_markSplit t vq5 σ48).bind (fun σ67 => lt (vq6 + 1) (fun vq71 => some (.inl (vq24, vq71, σ67))))) (fun z => some z) x)) else some (.inr (.inr (0, σ7))))) else some (.inr (.inl σ7)))
noncomputable def T_splitToLine_b2 (t : Nat) (σ74 : Mem) : Option ((Mem) ⊕ (Mem)) := if (σ74 t 9) ≤ 0 then some (.inr σ74) else lt (mput σ74 t 9 ((σ74 t 9) - 1)) (fun σ84 => (rd σ84 (t + 6) (σ84 t 9)).bind (fun vq86 => (T_append t vq86 σ84).bind (fun σ88 => some (.inl σ88))))
noncomputable def T_splitToLine (t : Nat) (x1 : Int32) (x2 : Int32) (x3 : Int32) (σ : Mem) : Option (Int32 × Mem) := lt (σ t 7) (fun vq1 => lt (mput σ t 9 0) (fun σ3 => (lp (fun s => T_splitToLine_b1 t x2 s.1 s.2.1 s.2.2) fuel (x1, 0, σ3)).bind (fun x => Sum.elim (fun σ8 => (lp (fun s => T_splitToLine_b2 t s) fuel σ8).bind (fun σ75 => ((if x3 = 0 then (T_turn (t + 5) vq1 ((σ75 t 7) - 1) σ75).bind (fun σ98 => some σ98) else some σ75 : Option (Mem))).bind (fun σ97 => some (1, σ97)))) (fun z => some z) x)))
set_option maxHeartbeats 4000000 in
set_option maxRecDepth 100000 in
theorem c_T_splitToLine (l : Launch) (Y : Wx) (t : Nat) (x1 : Int32) (x2 : Int32) (x3 : Int32) (ht : isT t) (σ : Mem) (o : Int32 × Mem) (hf : T_splitToLine t x1 x2 x3 σ = some o) : Ct l Y 0 y_T_splitToLine b_T_splitToLine 8 (some .boolean) 2 [.ref (adr Y t), .int x1, .int x2, .int x3] σ (some (.int o.1)) o.2 := by
  unfold T_splitToLine at hf
  refine ct_of (by decide) (Nat.le_of_ble_eq_true rfl) rfl (fun X hXl hX hR => ?_)
  subst hXl
  have hX : Fx X Y 0 b_T_splitToLine 8 R_T 2 := hX
  refine g_aload_n hX d_T_splitToLine_0 0 rfl ?_
  refine g_getI hX (iwT ht) (shTt ht) rfl fl_T_34.f d_T_splitToLine_1 ?_
  refine g_istore hX (fun vq1 => [(4, .int vq1), (0, .ref (adr Y t)), (1, .int x1), (2, .int x2), (3, .int x3)]) d_T_splitToLine_4 (by decide) (fun _ => rfl) hf (fun vq1 h2 => ?_)
  refine g_iload_n hX d_T_splitToLine_6 2 rfl ?_
  refine g_istoreV hX [(5, .int x1), (4, .int vq1), (0, .ref (adr Y t)), (1, .int x1), (2, .int x2), (3, .int x3)] d_T_splitToLine_7 (by decide) rfl ?_
  refine g_aload_n hX d_T_splitToLine_9 2 rfl ?_
  refine g_iconst hX 0 d_T_splitToLine_10 (by decide) ?_
  refine g_putI hX (iwT ht) (shTt ht) rfl fl_T_40 d_T_splitToLine_11 h2 (fun σ3 h4 => ?_)
  refine g_iconst hX 0 d_T_splitToLine_14 (by decide) ?_
  refine g_istoreV hX [(6, .int 0), (5, .int x1), (4, .int vq1), (0, .ref (adr Y t)), (1, .int x1), (2, .int x2), (3, .int x3)] d_T_splitToLine_15 (by decide) rfl ?_
  obtain ⟨h12x, h12, h13⟩ := obind h4
  have KX13 : ∀ (σ8 : Mem) , h12x = .inl σ8 → Gd X Y 0 σ8 [(0, .ref (adr Y t)), (3, .int x3), (4, .int vq1)] 121 [] := by
    intro σ8 h14
    subst h14
    dsimp only [Sum.elim_inl] at h13
    obtain ⟨σ75, h79, h80⟩ := obind h13
    have KX80 : Gd X Y 0 σ75 [(0, .ref (adr Y t)), (3, .int x3), (4, .int vq1)] 154 [] := by
      refine g_iload_n hX d_T_splitToLine_154 1 rfl ?_
      obtain ⟨σ97, h92, h93⟩ := obind h80
      have KJ93 : Gd X Y 0 σ97 [] 173 [] := by
        refine g_iconst hX 1 d_T_splitToLine_173 (by decide) ?_
        cases h93
        exact g_zreturn hX hR okB1 d_T_splitToLine_174
      refine g_if_ne hX 173 d_T_splitToLine_155 (by decide) h92 (fun h95 => ?_) (fun h96 => ?_)
      · refine g_sub (lv2 := []) [] rfl ?_
        cases h95
        exact KJ93
      · refine g_aload_n hX d_T_splitToLine_158 0 rfl ?_
        refine g_getR hX (iwT ht) (shTt ht) rfl fl_T_31 d_T_splitToLine_159 ?_
        refine g_iload hX d_T_splitToLine_162 2 rfl ?_
        refine g_aload_n hX d_T_splitToLine_164 0 rfl ?_
        refine g_getI hX (iwT ht) (shTt ht) rfl fl_T_34.f d_T_splitToLine_165 ?_
        refine g_iconst hX 1 d_T_splitToLine_168 (by decide) ?_
        refine g_isub hX d_T_splitToLine_169 ?_
        obtain ⟨σ98, h99, h100⟩ := obind h96
        refine g_callS hX [.ref (adr Y (t + 5)), .int vq1, .int ((σ75 t 7) - 1)] [] mv_T_81 (c_T_turn X.2.1 Y (t + 5) vq1 ((σ75 t 7) - 1) (isA5 ht) σ75 _ h99) (by decide) rfl rfl (Nat.le_of_ble_eq_true rfl) d_T_splitToLine_170 (fun h101 => ?_)
        show Gd X Y 0 σ98 [(0, .ref (adr Y t)), (3, .int x3), (4, .int vq1)] 173 []
        refine g_sub (lv2 := []) [] rfl ?_
        cases h100
        exact KJ93
    refine g_sub (lv2 := [(0, .ref (adr Y t)), (3, .int x3), (4, .int vq1)]) [0, 1, 2] rfl ?_
    refine g_loop (fun s => T_splitToLine_b2 t s) (fun s => Gd X Y 0 s [(0, .ref (adr Y t)), (3, .int x3), (4, .int vq1)] 121 []) σ75 ?_ fuel σ8 h79
    intro σ74 y78 h78 h76 h77
    have h78 : T_splitToLine_b2 t σ74 = some y78 := h78
    unfold T_splitToLine_b2 at h78
    show Gd X Y 0 σ74 [(0, .ref (adr Y t)), (3, .int x3), (4, .int vq1)] 121 []
    refine g_aload_n hX d_T_splitToLine_121 0 rfl ?_
    refine g_getI hX (iwT ht) (shTt ht) rfl fl_T_40.f d_T_splitToLine_122 ?_
    refine g_if_le hX 154 d_T_splitToLine_125 (by decide) h78 (fun h82 => ?_) (fun h83 => ?_)
    · refine g_sub (lv2 := [(0, .ref (adr Y t)), (3, .int x3), (4, .int vq1)]) [0, 1, 2] rfl ?_
      cases h82
      have h81 := h77 σ74 rfl
      cases h81
      exact KX80
    · refine g_aload_n hX d_T_splitToLine_128 0 rfl ?_
      refine g_dup hX d_T_splitToLine_129 rfl ?_
      refine g_getI hX (iwT ht) (shTt ht) rfl fl_T_40.f d_T_splitToLine_130 ?_
      refine g_iconst hX 1 d_T_splitToLine_133 (by decide) ?_
      refine g_isub hX d_T_splitToLine_134 ?_
      refine g_putI hX (iwT ht) (shTt ht) rfl fl_T_40 d_T_splitToLine_135 h83 (fun σ84 h85 => ?_)
      refine g_aload_n hX d_T_splitToLine_138 0 rfl ?_
      refine g_aload_n hX d_T_splitToLine_139 0 rfl ?_
      refine g_getR hX (iwT ht) (shTt ht) rfl fl_T_37 d_T_splitToLine_140 ?_
      refine g_aload_n hX d_T_splitToLine_143 0 rfl ?_
      refine g_getI hX (iwT ht) (shTt ht) rfl fl_T_40.f d_T_splitToLine_144 ?_
      refine g_iaload hX (iwA6 ht) (shA6 ht) d_T_splitToLine_147 h85 (fun vq86 h87 => ?_)
      obtain ⟨σ88, h89, h90⟩ := obind h87
      refine g_callV hX [.int vq86] [] mv_T_122 (c_T_append X.2.1 Y t vq86 ht σ84 _ h89) (by decide) (iwT ht) (shTt ht) rfl rfl rfl (Nat.le_of_ble_eq_true rfl) d_T_splitToLine_148 (fun h91 => ?_)
      show Gd X Y 0 σ88 [(0, .ref (adr Y t)), (3, .int x3), (4, .int vq1)] 151 []
      refine g_goto hX 121 d_T_splitToLine_151 (by decide) ?_
      refine g_sub (lv2 := [(0, .ref (adr Y t)), (3, .int x3), (4, .int vq1)]) [0, 1, 2] rfl ?_
      cases h90
      exact h76 σ88 rfl
  refine g_sub (lv2 := [(0, .ref (adr Y t)), (2, .int x2), (3, .int x3), (4, .int vq1), (5, .int x1), (6, .int 0)]) [3, 5, 6, 2, 1, 0] rfl ?_
  refine g_loop (fun s => T_splitToLine_b1 t x2 s.1 s.2.1 s.2.2) (fun s => Gd X Y 0 s.2.2 [(0, .ref (adr Y t)), (2, .int x2), (3, .int x3), (4, .int vq1), (5, .int s.1), (6, .int s.2.1)] 17 []) h12x ?_ fuel (x1, 0, σ3) h12
  intro s y11 h11 h9 h10
  obtain ⟨vq5, vq6, σ7⟩ := s
  have h11 : T_splitToLine_b1 t x2 vq5 vq6 σ7 = some y11 := h11
  unfold T_splitToLine_b1 at h11
  show Gd X Y 0 σ7 [(0, .ref (adr Y t)), (2, .int x2), (3, .int x3), (4, .int vq1), (5, .int vq5), (6, .int vq6)] 17 []
  refine g_iload hX d_T_splitToLine_17 5 rfl ?_
  refine g_bipush hX 8 d_T_splitToLine_19 (by decide) ?_
  obtain ⟨bq15, h16, h17⟩ := ltex h11
  have Kbq15t : bq15 = true → Gd X Y 0 σ7 [(0, .ref (adr Y t)), (2, .int x2), (3, .int x3), (4, .int vq1), (5, .int vq5), (6, .int vq6)] 30 [] := by
    intro h73
    have h22 := (if_pos h73).symm.trans h17
    refine g_aload_n hX d_T_splitToLine_30 0 rfl ?_
    refine g_iload hX d_T_splitToLine_31 4 rfl ?_
    refine g_iload_n hX d_T_splitToLine_33 1 rfl ?_
    refine g_iconst hX 1 d_T_splitToLine_34 (by decide) ?_
    refine g_iconst hX 0 d_T_splitToLine_35 (by decide) ?_
    obtain ⟨vq24, h25, h26⟩ := obind h22
    refine g_callV hX [.int vq5, .int x2, .int 1, .int 0] [] mv_T_110 (c_T_partIn X.2.1 Y t vq5 x2 1 0 ht σ7 _ h25) (by decide) (iwT ht) (shTt ht) rfl rfl rfl (Nat.le_of_ble_eq_true rfl) d_T_splitToLine_36 (fun h27 => ?_)
    show Gd X Y 0 σ7 [(0, .ref (adr Y t)), (2, .int x2), (3, .int x3), (4, .int vq1), (5, .int vq5), (6, .int vq6)] 39 [.int vq24]
    refine g_istoreV hX [(7, .int vq24), (0, .ref (adr Y t)), (2, .int x2), (3, .int x3), (4, .int vq1), (5, .int vq5), (6, .int vq6)] d_T_splitToLine_39 (by decide) rfl ?_
    refine g_aload_n hX d_T_splitToLine_41 1 rfl ?_
    refine g_iload hX d_T_splitToLine_42 5 rfl ?_
    refine g_iload_n hX d_T_splitToLine_44 2 rfl ?_
    refine g_iconst hX 1 d_T_splitToLine_45 (by decide) ?_
    refine g_iconst hX 1 d_T_splitToLine_46 (by decide) ?_
    obtain ⟨vq28, h29, h30⟩ := obind h26
    refine g_callV hX [.int vq5, .int x2, .int 1, .int 1] [] mv_T_110 (c_T_partIn X.2.1 Y t vq5 x2 1 1 ht σ7 _ h29) (by decide) (iwT ht) (shTt ht) rfl rfl rfl (Nat.le_of_ble_eq_true rfl) d_T_splitToLine_47 (fun h31 => ?_)
    show Gd X Y 0 σ7 [(7, .int vq24), (0, .ref (adr Y t)), (2, .int x2), (3, .int x3), (4, .int vq1), (5, .int vq5), (6, .int vq6)] 50 [.int vq28]
    refine g_iconst hX (-1) d_T_splitToLine_50 (by decide) ?_
    refine g_icmp_eq hX 56 d_T_splitToLine_51 (by decide) h30 (fun h32 => ?_) (fun h33 => ?_)
    · refine g_aload_n hX d_T_splitToLine_56 1 rfl ?_
      refine g_getR hX (iwT ht) (shTt ht) rfl fl_T_11 d_T_splitToLine_57 ?_
      refine g_iload hX d_T_splitToLine_60 5 rfl ?_
      refine g_iaload hX (iwA1 ht) (shA1 ht) d_T_splitToLine_62 h32 (fun vq34 h35 => ?_)
      obtain ⟨h38x, h36, h37⟩ := obind h35
      have KJ37 : ∀ (σ48 : Mem) , h38x = .inl σ48 → Gd X Y 0 σ48 [(0, .ref (adr Y t)), (2, .int x2), (3, .int x3), (4, .int vq1), (5, .int vq5), (6, .int vq6), (7, .int vq24)] 105 [] := by
        intro σ48 h38
        subst h38
        dsimp only [Sum.elim_inl] at h37
        refine g_aload_n hX d_T_splitToLine_105 0 rfl ?_
        refine g_iload hX d_T_splitToLine_106 4 rfl ?_
        obtain ⟨σ67, h68, h69⟩ := obind h37
        refine g_callV hX [.int vq5] [] mv_T_141 (c_T_markSplit X.2.1 Y t vq5 ht σ48 _ h68) (by decide) (iwT ht) (shTt ht) rfl rfl rfl (Nat.le_of_ble_eq_true rfl) d_T_splitToLine_108 (fun h70 => ?_)
        show Gd X Y 0 σ67 [(0, .ref (adr Y t)), (2, .int x2), (3, .int x3), (4, .int vq1), (5, .int vq5), (6, .int vq6), (7, .int vq24)] 111 []
        refine g_iload hX d_T_splitToLine_111 6 rfl ?_
        refine g_istoreV hX [(5, .int vq24), (0, .ref (adr Y t)), (2, .int x2), (3, .int x3), (4, .int vq1), (6, .int vq6), (7, .int vq24)] d_T_splitToLine_113 (by decide) rfl ?_
        refine g_iinc hX (fun vq71 => [(6, .int vq71), (5, .int vq24), (0, .ref (adr Y t)), (2, .int x2), (3, .int x3), (4, .int vq1), (7, .int vq24)]) d_T_splitToLine_115 5 rfl rfl (by decide) (fun _ => rfl) h69 (fun vq71 h72 => ?_)
        refine g_goto hX 17 d_T_splitToLine_118 (by decide) ?_
        refine g_sub (lv2 := [(0, .ref (adr Y t)), (2, .int x2), (3, .int x3), (4, .int vq1), (5, .int vq24), (6, .int vq71)]) [2, 3, 4, 5, 1, 0] rfl ?_
        cases h72
        exact h9 (vq24, vq71, σ67) rfl
      refine g_if_ne hX 93 d_T_splitToLine_63 (by decide) h36 (fun h39 => ?_) (fun h40 => ?_)
      · refine g_aload_n hX d_T_splitToLine_93 1 rfl ?_
        refine g_iload hX d_T_splitToLine_94 5 rfl ?_
        refine g_iload_n hX d_T_splitToLine_96 2 rfl ?_
        obtain ⟨⟨vq41, σ42⟩, h43, h44⟩ := obind h39
        have h44 := lt2 h44
        refine g_callV hX [.int vq5, .int x2] [] mv_T_138 (c_T_splitTurning X.2.1 Y t vq5 x2 ht σ7 _ h43) (by decide) (iwT ht) (shTt ht) rfl rfl rfl (Nat.le_of_ble_eq_true rfl) d_T_splitToLine_97 (fun h45 => ?_)
        show Gd X Y 0 σ42 [(7, .int vq24), (0, .ref (adr Y t)), (2, .int x2), (3, .int x3), (4, .int vq1), (5, .int vq5), (6, .int vq6)] 100 [.int vq41]
        refine g_if_ne hX 105 d_T_splitToLine_100 (by decide) h44 (fun h46 => ?_) (fun h47 => ?_)
        · refine g_sub (lv2 := [(0, .ref (adr Y t)), (2, .int x2), (3, .int x3), (4, .int vq1), (5, .int vq5), (6, .int vq6), (7, .int vq24)]) [1, 2, 3, 4, 5, 6, 0] rfl ?_
          cases h46
          exact KJ37 _ rfl
        · refine g_iconst hX 0 d_T_splitToLine_103 (by decide) ?_
          cases h47
          dsimp only [Sum.elim_inr] at h37
          cases h37
          have h14 := h10 (.inr (0, σ42)) rfl
          subst h14
          dsimp only [Sum.elim_inr] at h13
          cases h13
          exact g_zreturn hX hR okB0 d_T_splitToLine_104
      · refine g_aload_n hX d_T_splitToLine_66 1 rfl ?_
        refine g_aload_n hX d_T_splitToLine_67 1 rfl ?_
        refine g_iload hX d_T_splitToLine_68 5 rfl ?_
        refine g_iload_n hX d_T_splitToLine_70 2 rfl ?_
        refine g_iconst hX 0 d_T_splitToLine_71 (by decide) ?_
        obtain ⟨⟨vq49, σ50⟩, h51, h52⟩ := obind h40
        have h52 := lt2 h52
        refine g_callV hX [.int vq5, .int x2, .int 0] [.ref (adr Y t)] mv_T_118 (c_T_bundle X.2.1 Y t vq5 x2 0 ht σ7 _ h51) (by decide) (iwT ht) (shTt ht) rfl rfl rfl (Nat.le_of_ble_eq_true rfl) d_T_splitToLine_72 (fun h53 => ?_)
        show Gd X Y 0 σ50 [(7, .int vq24), (0, .ref (adr Y t)), (2, .int x2), (3, .int x3), (4, .int vq1), (5, .int vq5), (6, .int vq6)] 75 [.int vq49, .ref (adr Y t)]
        obtain ⟨σ54, h55, h56⟩ := obind h52
        refine g_callV hX [.int vq49] [] mv_T_122 (c_T_append X.2.1 Y t vq49 ht σ50 _ h55) (by decide) (iwT ht) (shTt ht) rfl rfl rfl (Nat.le_of_ble_eq_true rfl) d_T_splitToLine_75 (fun h57 => ?_)
        show Gd X Y 0 σ54 [(7, .int vq24), (0, .ref (adr Y t)), (2, .int x2), (3, .int x3), (4, .int vq1), (5, .int vq5), (6, .int vq6)] 78 []
        refine g_aload_n hX d_T_splitToLine_78 1 rfl ?_
        refine g_aload_n hX d_T_splitToLine_79 1 rfl ?_
        refine g_iload hX d_T_splitToLine_80 5 rfl ?_
        refine g_iload_n hX d_T_splitToLine_82 2 rfl ?_
        refine g_iconst hX 2 d_T_splitToLine_83 (by decide) ?_
        obtain ⟨⟨vq58, σ59⟩, h60, h61⟩ := obind h56
        have h61 := lt2 h61
        refine g_callV hX [.int vq5, .int x2, .int 2] [.ref (adr Y t)] mv_T_118 (c_T_bundle X.2.1 Y t vq5 x2 2 ht σ54 _ h60) (by decide) (iwT ht) (shTt ht) rfl rfl rfl (Nat.le_of_ble_eq_true rfl) d_T_splitToLine_84 (fun h62 => ?_)
        show Gd X Y 0 σ59 [(7, .int vq24), (0, .ref (adr Y t)), (2, .int x2), (3, .int x3), (4, .int vq1), (5, .int vq5), (6, .int vq6)] 87 [.int vq58, .ref (adr Y t)]
        obtain ⟨σ63, h64, h65⟩ := obind h61
        refine g_callV hX [.int vq58] [] mv_T_135 (c_T_hold X.2.1 Y t vq58 ht σ59 _ h64) (by decide) (iwT ht) (shTt ht) rfl rfl rfl (Nat.le_of_ble_eq_true rfl) d_T_splitToLine_87 (fun h66 => ?_)
        show Gd X Y 0 σ63 [(7, .int vq24), (0, .ref (adr Y t)), (2, .int x2), (3, .int x3), (4, .int vq1), (5, .int vq5), (6, .int vq6)] 90 []
        refine g_goto hX 105 d_T_splitToLine_90 (by decide) ?_
        refine g_sub (lv2 := [(0, .ref (adr Y t)), (2, .int x2), (3, .int x3), (4, .int vq1), (5, .int vq5), (6, .int vq6), (7, .int vq24)]) [1, 2, 3, 4, 5, 6, 0] rfl ?_
        cases h65
        exact KJ37 _ rfl
    · refine g_iconst hX 0 d_T_splitToLine_54 (by decide) ?_
      cases h33
      have h14 := h10 (.inr (0, σ7)) rfl
      subst h14
      dsimp only [Sum.elim_inr] at h13
      cases h13
      exact g_zreturn hX hR okB0 d_T_splitToLine_55
  have Kbq15f : ¬ bq15 = true → Gd X Y 0 σ7 [(0, .ref (adr Y t)), (2, .int x2), (3, .int x3), (4, .int vq1), (5, .int vq5), (6, .int vq6)] 121 [] := by
    intro h73
    have h23 := (if_neg h73).symm.trans h17
    refine g_sub (lv2 := [(0, .ref (adr Y t)), (3, .int x3), (4, .int vq1)]) [0, 2, 3] rfl ?_
    cases h23
    exact KX13 σ7 (h10 (.inl σ7) rfl).symm
  refine g_icmp_ge hX 121 d_T_splitToLine_21 (by decide) h16 (fun h18 => ?_) (fun h19 => ?_)
  · cases h18
    exact Kbq15f (by decide)
  · refine g_iload hX d_T_splitToLine_24 4 rfl ?_
    refine g_iconst hX (-1) d_T_splitToLine_26 (by decide) ?_
    refine g_icmp_eq hX 121 d_T_splitToLine_27 (by decide) h19 (fun h20 => ?_) (fun h21 => ?_)
    · cases h20
      exact Kbq15f (by decide)
    · cases h21
      exact Kbq15t rfl
