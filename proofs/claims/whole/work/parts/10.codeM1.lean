noncomputable def M_in (x0 : Int32) (x1 : Int32) (x2 : Int32) : Int32 := lt (if x0 < x1 then false else if x2 < x0 then false else true : Bool) (fun bq1 => lt (if bq1 = true then 1 else 0 : Int32) (fun vq13 => vq13))
set_option maxHeartbeats 4000000 in
set_option maxRecDepth 100000 in
theorem c_M_in (l : Launch) (Y : Wx) (x0 : Int32) (x1 : Int32) (x2 : Int32)  (σ : Mem) (o : Int32) (hf : M_in x0 x1 x2 = o) : Ct l Y 1 y_M_in b_M_in 3 (some .boolean) 0 [.int x0, .int x1, .int x2] σ (some (.int o)) σ := by
  unfold M_in at hf
  refine ct_of (by decide) (Nat.le_of_ble_eq_true rfl) rfl (fun X hXl hX hR => ?_)
  subst hXl
  have hX : Fx X Y 1 b_M_in 3 R_M 0 := hX
  refine g_iload_n hX d_M_in_0 0 rfl ?_
  refine g_iload_n hX d_M_in_1 1 rfl ?_
  obtain ⟨bq1, h2, h3⟩ := ltex hf
  obtain ⟨vq13, h8, h9⟩ := ltex h3
  have KJ9 : okR (some .boolean) (some (.int vq13)) → Gd X Y 1 σ [] 15 [.int vq13] := by
    intro hbvq13
    cases h9
    exact g_zreturn hX hR hbvq13 d_M_in_15
  have Kbq1t : bq1 = true → Gd X Y 1 σ [(0, .int x0), (1, .int x1), (2, .int x2)] 10 [] := by
    intro h14
    have h11 := (if_pos h14).symm.trans h8
    refine g_iconst hX 1 d_M_in_10 (by decide) ?_
    refine g_goto hX 15 d_M_in_11 (by decide) ?_
    refine g_sub (lv2 := []) [] rfl ?_
    cases h11
    exact KJ9 okB1
  have Kbq1f : ¬ bq1 = true → Gd X Y 1 σ [(0, .int x0), (1, .int x1), (2, .int x2)] 14 [] := by
    intro h14
    have h12 := (if_neg h14).symm.trans h8
    refine g_iconst hX 0 d_M_in_14 (by decide) ?_
    refine g_sub (lv2 := []) [] rfl ?_
    cases h12
    exact KJ9 okB0
  refine g_icmp_lt hX 14 d_M_in_2 (by decide) h2 (fun h4 => ?_) (fun h5 => ?_)
  · cases h4
    exact Kbq1f (by decide)
  · refine g_iload_n hX d_M_in_5 0 rfl ?_
    refine g_iload_n hX d_M_in_6 2 rfl ?_
    refine g_icmp_gt hX 14 d_M_in_7 (by decide) h5 (fun h6 => ?_) (fun h7 => ?_)
    · cases h6
      exact Kbq1f (by decide)
    · cases h7
      exact Kbq1t rfl
noncomputable def M_isIn (x0 : Int32) (x1 : Int32) : Int32 := lt (if ((x0 >>> (x1 &&& 31)) &&& 1) = 1 then 1 else 0 : Int32) (fun vq6 => vq6)
set_option maxHeartbeats 4000000 in
set_option maxRecDepth 100000 in
theorem c_M_isIn (l : Launch) (Y : Wx) (x0 : Int32) (x1 : Int32)  (σ : Mem) (o : Int32) (hf : M_isIn x0 x1 = o) : Ct l Y 1 y_M_isIn b_M_isIn 2 (some .boolean) 0 [.int x0, .int x1] σ (some (.int o)) σ := by
  unfold M_isIn at hf
  refine ct_of (by decide) (Nat.le_of_ble_eq_true rfl) rfl (fun X hXl hX hR => ?_)
  subst hXl
  have hX : Fx X Y 1 b_M_isIn 2 R_M 0 := hX
  refine g_iload_n hX d_M_isIn_0 0 rfl ?_
  refine g_iload_n hX d_M_isIn_1 1 rfl ?_
  refine g_ishr hX d_M_isIn_2 ?_
  refine g_iconst hX 1 d_M_isIn_3 (by decide) ?_
  refine g_iand hX d_M_isIn_4 ?_
  refine g_iconst hX 1 d_M_isIn_5 (by decide) ?_
  obtain ⟨vq6, h1, h2⟩ := ltex hf
  have KJ2 : okR (some .boolean) (some (.int vq6)) → Gd X Y 1 σ [] 14 [.int vq6] := by
    intro hbvq6
    cases h2
    exact g_zreturn hX hR hbvq6 d_M_isIn_14
  refine g_icmp_ne hX 13 d_M_isIn_6 (by decide) h1 (fun h4 => ?_) (fun h5 => ?_)
  · refine g_iconst hX 0 d_M_isIn_13 (by decide) ?_
    refine g_sub (lv2 := []) [] rfl ?_
    cases h4
    exact KJ2 okB0
  · refine g_iconst hX 1 d_M_isIn_9 (by decide) ?_
    refine g_goto hX 14 d_M_isIn_10 (by decide) ?_
    refine g_sub (lv2 := []) [] rfl ?_
    cases h5
    exact KJ2 okB1
noncomputable def M_many_b1 (x0 : Int32) (vq1 : Int32) (vq2 : Int32) : Option ((Int32 × Int32) ⊕ (Int32)) := if 8 ≤ vq2 then some (.inr vq1) else lt (if (M_isIn x0 vq2) = 0 then 0 else 1 : Int32) (fun vq18 => lt (vq1 + vq18) (fun vq19 => lt (vq2 + 1) (fun vq21 => some (.inl (vq19, vq21)))))
noncomputable def M_many (x0 : Int32) : Option (Int32) := (lp (fun s => M_many_b1 x0 s.1 s.2) fuel (0, 0)).bind (fun vq3 => some vq3)
set_option maxHeartbeats 4000000 in
set_option maxRecDepth 100000 in
theorem c_M_many (l : Launch) (Y : Wx) (x0 : Int32)  (σ : Mem) (o : Int32) (hf : M_many x0 = some o) : Ct l Y 1 y_M_many b_M_many 3 (some .int) 1 [.int x0] σ (some (.int o)) σ := by
  unfold M_many at hf
  refine ct_of (by decide) (Nat.le_of_ble_eq_true rfl) rfl (fun X hXl hX hR => ?_)
  subst hXl
  have hX : Fx X Y 1 b_M_many 3 R_M 1 := hX
  refine g_iconst hX 0 d_M_many_0 (by decide) ?_
  refine g_istore_nV hX [(1, .int 0), (0, .int x0)] d_M_many_1 (by decide) rfl ?_
  refine g_iconst hX 0 d_M_many_2 (by decide) ?_
  refine g_istore_nV hX [(2, .int 0), (1, .int 0), (0, .int x0)] d_M_many_3 (by decide) rfl ?_
  obtain ⟨vq3, h7, h8⟩ := obind hf
  have KX8 : Gd X Y 1 σ [(1, .int vq3)] 32 [] := by
    refine g_iload_n hX d_M_many_32 0 rfl ?_
    cases h8
    exact g_ireturn hX hR d_M_many_33
  refine g_sub (lv2 := [(0, .int x0), (1, .int 0), (2, .int 0)]) [2, 1, 0] rfl ?_
  refine g_loop (fun s => M_many_b1 x0 s.1 s.2) (fun s => Gd X Y 1 σ [(0, .int x0), (1, .int s.1), (2, .int s.2)] 4 []) vq3 ?_ fuel (0, 0) h7
  intro s y6 h6 h4 h5
  obtain ⟨vq1, vq2⟩ := s
  have h6 : M_many_b1 x0 vq1 vq2 = some y6 := h6
  unfold M_many_b1 at h6
  show Gd X Y 1 σ [(0, .int x0), (1, .int vq1), (2, .int vq2)] 4 []
  refine g_iload_n hX d_M_many_4 2 rfl ?_
  refine g_bipush hX 8 d_M_many_5 (by decide) ?_
  refine g_icmp_ge hX 32 d_M_many_7 (by decide) h6 (fun h10 => ?_) (fun h11 => ?_)
  · refine g_sub (lv2 := [(1, .int vq1)]) [1] rfl ?_
    cases h10
    have h9 := h5 vq1 rfl
    cases h9
    exact KX8
  · refine g_iload_n hX d_M_many_10 1 rfl ?_
    refine g_iload_n hX d_M_many_11 0 rfl ?_
    refine g_iload_n hX d_M_many_12 2 rfl ?_
    refine g_callS hX [.int x0, .int vq2] [.int vq1] mv_M_81 (c_M_isIn X.2.1 Y x0 vq2 σ _ rfl) (by decide) rfl rfl (Nat.le_of_ble_eq_true rfl) d_M_many_13 (fun h12 => ?_)
    show Gd X Y 1 σ [(0, .int x0), (1, .int vq1), (2, .int vq2)] 16 [.int (M_isIn x0 vq2), .int vq1]
    obtain ⟨vq18, h13, h14⟩ := ltex h11
    have KJ14 : okR (some .boolean) (some (.int vq18)) → Gd X Y 1 σ [(0, .int x0), (2, .int vq2)] 24 [.int vq18, .int vq1] := by
      intro hbvq18
      refine g_iadd hX d_M_many_24 ?_
      refine g_istore_n hX (fun vq19 => [(1, .int vq19), (0, .int x0), (2, .int vq2)]) d_M_many_25 (by decide) (fun _ => rfl) h14 (fun vq19 h20 => ?_)
      refine g_iinc hX (fun vq21 => [(2, .int vq21), (1, .int vq19), (0, .int x0)]) d_M_many_26 2 rfl rfl (by decide) (fun _ => rfl) h20 (fun vq21 h22 => ?_)
      refine g_goto hX 4 d_M_many_29 (by decide) ?_
      refine g_sub (lv2 := [(0, .int x0), (1, .int vq19), (2, .int vq21)]) [2, 1, 0] rfl ?_
      cases h22
      exact h4 (vq19, vq21) rfl
    refine g_if_eq hX 23 d_M_many_16 (by decide) h13 (fun h16 => ?_) (fun h17 => ?_)
    · refine g_iconst hX 0 d_M_many_23 (by decide) ?_
      refine g_sub (lv2 := [(0, .int x0), (2, .int vq2)]) [0, 2] rfl ?_
      cases h16
      exact KJ14 okB0
    · refine g_iconst hX 1 d_M_many_19 (by decide) ?_
      refine g_goto hX 24 d_M_many_20 (by decide) ?_
      refine g_sub (lv2 := [(0, .int x0), (2, .int vq2)]) [0, 2] rfl ?_
      cases h17
      exact KJ14 okB1
noncomputable def M_least_b1 (x0 : Int32) (vq1 : Int32) : Option ((Int32) ⊕ (Int32)) := if (M_isIn x0 vq1) = 0 then lt (vq1 + 1) (fun vq12 => some (.inl vq12)) else some (.inr vq1)
noncomputable def M_least (x0 : Int32) : Option (Int32) := (lp (fun s => M_least_b1 x0 s) fuel 0).bind (fun vq2 => some vq2)
set_option maxHeartbeats 4000000 in
set_option maxRecDepth 100000 in
theorem c_M_least (l : Launch) (Y : Wx) (x0 : Int32)  (σ : Mem) (o : Int32) (hf : M_least x0 = some o) : Ct l Y 1 y_M_least b_M_least 2 (some .int) 1 [.int x0] σ (some (.int o)) σ := by
  unfold M_least at hf
  refine ct_of (by decide) (Nat.le_of_ble_eq_true rfl) rfl (fun X hXl hX hR => ?_)
  subst hXl
  have hX : Fx X Y 1 b_M_least 2 R_M 1 := hX
  refine g_iconst hX 0 d_M_least_0 (by decide) ?_
  refine g_istore_nV hX [(1, .int 0), (0, .int x0)] d_M_least_1 (by decide) rfl ?_
  obtain ⟨vq2, h6, h7⟩ := obind hf
  have KX7 : Gd X Y 1 σ [(1, .int vq2)] 16 [] := by
    refine g_iload_n hX d_M_least_16 0 rfl ?_
    cases h7
    exact g_ireturn hX hR d_M_least_17
  refine g_sub (lv2 := [(0, .int x0), (1, .int 0)]) [1, 0] rfl ?_
  refine g_loop (fun s => M_least_b1 x0 s) (fun s => Gd X Y 1 σ [(0, .int x0), (1, .int s)] 2 []) vq2 ?_ fuel 0 h6
  intro vq1 y5 h5 h3 h4
  have h5 : M_least_b1 x0 vq1 = some y5 := h5
  unfold M_least_b1 at h5
  show Gd X Y 1 σ [(0, .int x0), (1, .int vq1)] 2 []
  refine g_iload_n hX d_M_least_2 0 rfl ?_
  refine g_iload_n hX d_M_least_3 1 rfl ?_
  refine g_callS hX [.int x0, .int vq1] [] mv_M_81 (c_M_isIn X.2.1 Y x0 vq1 σ _ rfl) (by decide) rfl rfl (Nat.le_of_ble_eq_true rfl) d_M_least_4 (fun h9 => ?_)
  show Gd X Y 1 σ [(0, .int x0), (1, .int vq1)] 7 [.int (M_isIn x0 vq1)]
  refine g_if_ne hX 16 d_M_least_7 (by decide) h5 (fun h10 => ?_) (fun h11 => ?_)
  · refine g_sub (lv2 := [(1, .int vq1)]) [1] rfl ?_
    cases h10
    have h8 := h4 vq1 rfl
    cases h8
    exact KX7
  · refine g_iinc hX (fun vq12 => [(1, .int vq12), (0, .int x0)]) d_M_least_10 1 rfl rfl (by decide) (fun _ => rfl) h11 (fun vq12 h13 => ?_)
    refine g_goto hX 2 d_M_least_13 (by decide) ?_
    refine g_sub (lv2 := [(0, .int x0), (1, .int vq12)]) [1, 0] rfl ?_
    cases h13
    exact h3 vq12 rfl
noncomputable def M_all  (σ : Mem) : Int32 := ((1 <<< ((σ 43 0) &&& 31)) - 1)
set_option maxHeartbeats 4000000 in
set_option maxRecDepth 100000 in
theorem c_M_all (l : Launch) (Y : Wx)   (σ : Mem) (o : Int32) (hf : M_all σ = o) : Ct l Y 1 y_M_all b_M_all 1 (some .int) 0 [.ref (adr Y 43)] σ (some (.int o)) σ := by
  unfold M_all at hf
  refine ct_of (by decide) (Nat.le_of_ble_eq_true rfl) rfl (fun X hXl hX hR => ?_)
  subst hXl
  have hX : Fx X Y 1 b_M_all 1 R_M 0 := hX
  refine g_iconst hX 1 d_M_all_0 (by decide) ?_
  refine g_aload_n hX d_M_all_1 0 rfl ?_
  refine g_getI hX iw_43 sh_43 rfl fl_M_7.f d_M_all_2 ?_
  refine g_ishl hX d_M_all_5 ?_
  refine g_iconst hX 1 d_M_all_6 (by decide) ?_
  refine g_isub hX d_M_all_7 ?_
  cases hf
  exact g_ireturn hX hR d_M_all_8
noncomputable def M_things (x1 : Int32) (σ : Mem) : Int32 × Mem := if (M_in x1 1 8) = 0 then ((-2), σ) else lt (σ 43 0) (fun vq4 => lt (mput σ 43 0 x1) (fun σ6 => (vq4, σ6)))
set_option maxHeartbeats 4000000 in
set_option maxRecDepth 100000 in
theorem c_M_things (l : Launch) (Y : Wx) (x1 : Int32)  (σ : Mem) (o : Int32 × Mem) (hf : M_things x1 σ = o) : Ct l Y 1 y_M_things b_M_things 3 (some .int) 1 [.ref (adr Y 43), .int x1] σ (some (.int o.1)) o.2 := by
  unfold M_things at hf
  refine ct_of (by decide) (Nat.le_of_ble_eq_true rfl) rfl (fun X hXl hX hR => ?_)
  subst hXl
  have hX : Fx X Y 1 b_M_things 3 R_M 1 := hX
  refine g_iload_n hX d_M_things_0 1 rfl ?_
  refine g_iconst hX 1 d_M_things_1 (by decide) ?_
  refine g_bipush hX 8 d_M_things_2 (by decide) ?_
  refine g_callS hX [.int x1, .int 1, .int 8] [] mv_M_85 (c_M_in X.2.1 Y x1 1 8 σ _ rfl) (by decide) rfl rfl (Nat.le_of_ble_eq_true rfl) d_M_things_4 (fun h1 => ?_)
  show Gd X Y 1 σ [(0, .ref (adr Y 43)), (1, .int x1)] 7 [.int (M_in x1 1 8)]
  refine g_if_ne hX 13 d_M_things_7 (by decide) hf (fun h2 => ?_) (fun h3 => ?_)
  · refine g_aload_n hX d_M_things_13 0 rfl ?_
    refine g_getI hX iw_43 sh_43 rfl fl_M_7.f d_M_things_14 ?_
    refine g_istore_n hX (fun vq4 => [(2, .int vq4), (0, .ref (adr Y 43)), (1, .int x1)]) d_M_things_17 (by decide) (fun _ => rfl) h2 (fun vq4 h5 => ?_)
    refine g_aload_n hX d_M_things_18 1 rfl ?_
    refine g_iload_n hX d_M_things_19 2 rfl ?_
    refine g_putI hX iw_43 sh_43 rfl fl_M_7 d_M_things_20 h5 (fun σ6 h7 => ?_)
    refine g_iload_n hX d_M_things_23 0 rfl ?_
    cases h7
    exact g_ireturn hX hR d_M_things_24
  · refine g_bipush hX (-2) d_M_things_10 (by decide) ?_
    cases h3
    exact g_ireturn hX hR d_M_things_12
noncomputable def M_nexts_b1 (x1 : Int32) (x2 : Int32) (x3 : Int32) (σ : Mem) (vq4 : Int32) (vq5 : Int32) : Option ((Int32 × Int32) ⊕ (Int32)) := if 11 ≤ vq5 then some (.inr vq4) else lt (if vq5 = 10 then true else if (M_isIn x2 vq5) = 0 then false else true : Bool) (fun bq15 => lt (if bq15 = true then 1 else 0 : Int32) (fun vq28 => ((if vq5 = 10 then some x3 else if vq28 = 0 then some 0 else (rd σ 44 vq5).bind (fun vq38 => some vq38) : Option (Int32))).bind (fun vq37 => lt (vq37 &&& (M_all σ)) (fun vq41 => lt (x1 &&& vq41) (fun vq43 => lt (if vq28 = 0 then false else if vq43 = 0 then false else if vq43 = vq41 then false else true : Bool) (fun bq45 => lt (if bq45 = true then (vq4 &&& vq41) else vq4 : Int32) (fun vq59 => lt (vq5 + 1) (fun vq61 => some (.inl (vq59, vq61))))))))))
noncomputable def M_nexts (x1 : Int32) (x2 : Int32) (x3 : Int32) (σ : Mem) : Option (Int32) := lt ((M_all σ) &&& (x1 ^^^ (-1))) (fun vq2 => (lp (fun s => M_nexts_b1 x1 x2 x3 σ s.1 s.2) fuel (vq2, 0)).bind (fun vq6 => some vq6))
set_option maxHeartbeats 4000000 in
set_option maxRecDepth 100000 in
theorem c_M_nexts (l : Launch) (Y : Wx) (x1 : Int32) (x2 : Int32) (x3 : Int32)  (σ : Mem) (o : Int32) (hf : M_nexts x1 x2 x3 σ = some o) : Ct l Y 1 y_M_nexts b_M_nexts 9 (some .int) 1 [.ref (adr Y 43), .int x1, .int x2, .int x3] σ (some (.int o)) σ := by
  unfold M_nexts at hf
  refine ct_of (by decide) (Nat.le_of_ble_eq_true rfl) rfl (fun X hXl hX hR => ?_)
  subst hXl
  have hX : Fx X Y 1 b_M_nexts 9 R_M 1 := hX
  refine g_aload_n hX d_M_nexts_0 0 rfl ?_
  refine g_callV hX [] [] mv_M_110 (c_M_all X.2.1 Y σ _ rfl) (by decide) iw_43 sh_43 rfl rfl rfl (Nat.le_of_ble_eq_true rfl) d_M_nexts_1 (fun h1 => ?_)
  show Gd X Y 1 σ [(0, .ref (adr Y 43)), (1, .int x1), (2, .int x2), (3, .int x3)] 4 [.int (M_all σ)]
  refine g_iload_n hX d_M_nexts_4 1 rfl ?_
  refine g_iconst hX (-1) d_M_nexts_5 (by decide) ?_
  refine g_ixor hX d_M_nexts_6 ?_
  refine g_iand hX d_M_nexts_7 ?_
  refine g_istore hX (fun vq2 => [(4, .int vq2), (0, .ref (adr Y 43)), (1, .int x1), (2, .int x2), (3, .int x3)]) d_M_nexts_8 (by decide) (fun _ => rfl) hf (fun vq2 h3 => ?_)
  refine g_iconst hX 0 d_M_nexts_10 (by decide) ?_
  refine g_istoreV hX [(5, .int 0), (4, .int vq2), (0, .ref (adr Y 43)), (1, .int x1), (2, .int x2), (3, .int x3)] d_M_nexts_11 (by decide) rfl ?_
  obtain ⟨vq6, h10, h11⟩ := obind h3
  have KX11 : Gd X Y 1 σ [(4, .int vq6)] 118 [] := by
    refine g_iload hX d_M_nexts_118 0 rfl ?_
    cases h11
    exact g_ireturn hX hR d_M_nexts_120
  refine g_sub (lv2 := [(0, .ref (adr Y 43)), (1, .int x1), (2, .int x2), (3, .int x3), (4, .int vq2), (5, .int 0)]) [2, 3, 4, 5, 1, 0] rfl ?_
  refine g_loop (fun s => M_nexts_b1 x1 x2 x3 σ s.1 s.2) (fun s => Gd X Y 1 σ [(0, .ref (adr Y 43)), (1, .int x1), (2, .int x2), (3, .int x3), (4, .int s.1), (5, .int s.2)] 13 []) vq6 ?_ fuel (vq2, 0) h10
  intro s y9 h9 h7 h8
  obtain ⟨vq4, vq5⟩ := s
  have h9 : M_nexts_b1 x1 x2 x3 σ vq4 vq5 = some y9 := h9
  unfold M_nexts_b1 at h9
  show Gd X Y 1 σ [(0, .ref (adr Y 43)), (1, .int x1), (2, .int x2), (3, .int x3), (4, .int vq4), (5, .int vq5)] 13 []
  refine g_iload hX d_M_nexts_13 5 rfl ?_
  refine g_bipush hX 11 d_M_nexts_15 (by decide) ?_
  refine g_icmp_ge hX 118 d_M_nexts_17 (by decide) h9 (fun h13 => ?_) (fun h14 => ?_)
  · refine g_sub (lv2 := [(4, .int vq4)]) [4] rfl ?_
    cases h13
    have h12 := h8 vq4 rfl
    cases h12
    exact KX11
  · refine g_iload hX d_M_nexts_20 5 rfl ?_
    refine g_bipush hX 10 d_M_nexts_22 (by decide) ?_
    obtain ⟨bq15, h16, h17⟩ := ltex h14
    obtain ⟨vq28, h23, h24⟩ := ltex h17
    have KJ24 : okR (some .boolean) (some (.int vq28)) → Gd X Y 1 σ [(0, .ref (adr Y 43)), (1, .int x1), (2, .int x2), (3, .int x3), (4, .int vq4), (5, .int vq5)] 41 [.int vq28] := by
      intro hbvq28
      refine g_istoreV hX [(6, .int vq28), (0, .ref (adr Y 43)), (1, .int x1), (2, .int x2), (3, .int x3), (4, .int vq4), (5, .int vq5)] d_M_nexts_41 (by decide) rfl ?_
      refine g_iload hX d_M_nexts_43 6 rfl ?_
      refine g_bipush hX 10 d_M_nexts_45 (by decide) ?_
      obtain ⟨vq37, h30, h31⟩ := obind h24
      have KJ31 : Gd X Y 1 σ [(0, .ref (adr Y 43)), (1, .int x1), (2, .int x2), (3, .int x3), (4, .int vq4), (5, .int vq5), (6, .int vq28)] 70 [.int vq37] := by
        refine g_aload_n hX d_M_nexts_70 0 rfl ?_
        refine g_callV hX [] [.int vq37] mv_M_110 (c_M_all X.2.1 Y σ _ rfl) (by decide) iw_43 sh_43 rfl rfl rfl (Nat.le_of_ble_eq_true rfl) d_M_nexts_71 (fun h40 => ?_)
        show Gd X Y 1 σ [(0, .ref (adr Y 43)), (1, .int x1), (2, .int x2), (3, .int x3), (4, .int vq4), (5, .int vq5), (6, .int vq28)] 74 [.int (M_all σ), .int vq37]
        refine g_iand hX d_M_nexts_74 ?_
        refine g_istore hX (fun vq41 => [(7, .int vq41), (0, .ref (adr Y 43)), (1, .int x1), (2, .int x2), (3, .int x3), (4, .int vq4), (5, .int vq5), (6, .int vq28)]) d_M_nexts_75 (by decide) (fun _ => rfl) h31 (fun vq41 h42 => ?_)
        refine g_iload_n hX d_M_nexts_77 2 rfl ?_
        refine g_iload hX d_M_nexts_78 0 rfl ?_
        refine g_iand hX d_M_nexts_80 ?_
        refine g_istore hX (fun vq43 => [(8, .int vq43), (7, .int vq41), (0, .ref (adr Y 43)), (1, .int x1), (2, .int x2), (3, .int x3), (4, .int vq4), (5, .int vq5), (6, .int vq28)]) d_M_nexts_81 (by decide) (fun _ => rfl) h42 (fun vq43 h44 => ?_)
        refine g_iload hX d_M_nexts_83 8 rfl ?_
        obtain ⟨bq45, h46, h47⟩ := ltex h44
        obtain ⟨vq59, h54, h55⟩ := ltex h47
        have KJ55 : Gd X Y 1 σ [(0, .ref (adr Y 43)), (1, .int x1), (2, .int x2), (3, .int x3), (5, .int vq5)] 110 [.int vq59] := by
          refine g_istoreV hX [(4, .int vq59), (0, .ref (adr Y 43)), (1, .int x1), (2, .int x2), (3, .int x3), (5, .int vq5)] d_M_nexts_110 (by decide) rfl ?_
          refine g_iinc hX (fun vq61 => [(5, .int vq61), (4, .int vq59), (0, .ref (adr Y 43)), (1, .int x1), (2, .int x2), (3, .int x3)]) d_M_nexts_112 5 rfl rfl (by decide) (fun _ => rfl) h55 (fun vq61 h62 => ?_)
          refine g_goto hX 13 d_M_nexts_115 (by decide) ?_
          refine g_sub (lv2 := [(0, .ref (adr Y 43)), (1, .int x1), (2, .int x2), (3, .int x3), (4, .int vq59), (5, .int vq61)]) [2, 3, 4, 5, 1, 0] rfl ?_
          cases h62
          exact h7 (vq59, vq61) rfl
        have Kbq45t : bq45 = true → Gd X Y 1 σ [(8, .int vq43), (7, .int vq41), (0, .ref (adr Y 43)), (1, .int x1), (2, .int x2), (3, .int x3), (4, .int vq4), (5, .int vq5), (6, .int vq28)] 100 [] := by
          intro h60
          have h57 := (if_pos h60).symm.trans h54
          refine g_iload hX d_M_nexts_100 6 rfl ?_
          refine g_iload hX d_M_nexts_102 1 rfl ?_
          refine g_iand hX d_M_nexts_104 ?_
          refine g_goto hX 110 d_M_nexts_105 (by decide) ?_
          refine g_sub (lv2 := [(0, .ref (adr Y 43)), (1, .int x1), (2, .int x2), (3, .int x3), (5, .int vq5)]) [2, 3, 4, 5, 7] rfl ?_
          cases h57
          exact KJ55
        have Kbq45f : ¬ bq45 = true → Gd X Y 1 σ [(8, .int vq43), (7, .int vq41), (0, .ref (adr Y 43)), (1, .int x1), (2, .int x2), (3, .int x3), (4, .int vq4), (5, .int vq5), (6, .int vq28)] 108 [] := by
          intro h60
          have h58 := (if_neg h60).symm.trans h54
          refine g_iload hX d_M_nexts_108 6 rfl ?_
          refine g_sub (lv2 := [(0, .ref (adr Y 43)), (1, .int x1), (2, .int x2), (3, .int x3), (5, .int vq5)]) [2, 3, 4, 5, 7] rfl ?_
          cases h58
          exact KJ55
        refine g_if_eq hX 108 d_M_nexts_85 (by decide) h46 (fun h48 => ?_) (fun h49 => ?_)
        · cases h48
          exact Kbq45f (by decide)
        · refine g_iload hX d_M_nexts_88 0 rfl ?_
          refine g_if_eq hX 108 d_M_nexts_90 (by decide) h49 (fun h50 => ?_) (fun h51 => ?_)
          · cases h50
            exact Kbq45f (by decide)
          · refine g_iload hX d_M_nexts_93 0 rfl ?_
            refine g_iload hX d_M_nexts_95 1 rfl ?_
            refine g_icmp_eq hX 108 d_M_nexts_97 (by decide) h51 (fun h52 => ?_) (fun h53 => ?_)
            · cases h52
              exact Kbq45f (by decide)
            · cases h53
              exact Kbq45t rfl
      refine g_icmp_ne hX 54 d_M_nexts_47 (by decide) h30 (fun h33 => ?_) (fun h34 => ?_)
      · refine g_iload hX d_M_nexts_54 0 rfl ?_
        refine g_if_eq hX 69 d_M_nexts_56 (by decide) h33 (fun h35 => ?_) (fun h36 => ?_)
        · refine g_iconst hX 0 d_M_nexts_69 (by decide) ?_
          refine g_sub (lv2 := [(0, .ref (adr Y 43)), (1, .int x1), (2, .int x2), (3, .int x3), (4, .int vq4), (5, .int vq5), (6, .int vq28)]) [1, 2, 3, 4, 5, 6, 0] rfl ?_
          cases h35
          exact KJ31
        · refine g_aload_n hX d_M_nexts_59 1 rfl ?_
          refine g_getR hX iw_43 sh_43 rfl fl_M_13 d_M_nexts_60 ?_
          refine g_iload hX d_M_nexts_63 6 rfl ?_
          refine g_iaload hX iw_44 sh_44 d_M_nexts_65 h36 (fun vq38 h39 => ?_)
          refine g_goto hX 70 d_M_nexts_66 (by decide) ?_
          refine g_sub (lv2 := [(0, .ref (adr Y 43)), (1, .int x1), (2, .int x2), (3, .int x3), (4, .int vq4), (5, .int vq5), (6, .int vq28)]) [1, 2, 3, 4, 5, 6, 0] rfl ?_
          cases h39
          exact KJ31
      · refine g_iload_n hX d_M_nexts_50 4 rfl ?_
        refine g_goto hX 70 d_M_nexts_51 (by decide) ?_
        refine g_sub (lv2 := [(0, .ref (adr Y 43)), (1, .int x1), (2, .int x2), (3, .int x3), (4, .int vq4), (5, .int vq5), (6, .int vq28)]) [1, 2, 3, 4, 5, 6, 0] rfl ?_
        cases h34
        exact KJ31
    have Kbq15t : bq15 = true → Gd X Y 1 σ [(0, .ref (adr Y 43)), (1, .int x1), (2, .int x2), (3, .int x3), (4, .int vq4), (5, .int vq5)] 36 [] := by
      intro h29
      have h26 := (if_pos h29).symm.trans h23
      refine g_iconst hX 1 d_M_nexts_36 (by decide) ?_
      refine g_goto hX 41 d_M_nexts_37 (by decide) ?_
      refine g_sub (lv2 := [(0, .ref (adr Y 43)), (1, .int x1), (2, .int x2), (3, .int x3), (4, .int vq4), (5, .int vq5)]) [0, 1, 2, 3, 4, 5] rfl ?_
      cases h26
      exact KJ24 okB1
    have Kbq15f : ¬ bq15 = true → Gd X Y 1 σ [(0, .ref (adr Y 43)), (1, .int x1), (2, .int x2), (3, .int x3), (4, .int vq4), (5, .int vq5)] 40 [] := by
      intro h29
      have h27 := (if_neg h29).symm.trans h23
      refine g_iconst hX 0 d_M_nexts_40 (by decide) ?_
      refine g_sub (lv2 := [(0, .ref (adr Y 43)), (1, .int x1), (2, .int x2), (3, .int x3), (4, .int vq4), (5, .int vq5)]) [0, 1, 2, 3, 4, 5] rfl ?_
      cases h27
      exact KJ24 okB0
    refine g_icmp_eq hX 36 d_M_nexts_24 (by decide) h16 (fun h18 => ?_) (fun h19 => ?_)
    · cases h18
      exact Kbq15t rfl
    · refine g_iload_n hX d_M_nexts_27 2 rfl ?_
      refine g_iload hX d_M_nexts_28 5 rfl ?_
      refine g_callS hX [.int x2, .int vq5] [] mv_M_81 (c_M_isIn X.2.1 Y x2 vq5 σ _ rfl) (by decide) rfl rfl (Nat.le_of_ble_eq_true rfl) d_M_nexts_30 (fun h20 => ?_)
      show Gd X Y 1 σ [(0, .ref (adr Y 43)), (1, .int x1), (2, .int x2), (3, .int x3), (4, .int vq4), (5, .int vq5)] 33 [.int (M_isIn x2 vq5)]
      refine g_if_eq hX 40 d_M_nexts_33 (by decide) h19 (fun h21 => ?_) (fun h22 => ?_)
      · cases h21
        exact Kbq15f (by decide)
      · cases h22
        exact Kbq15t rfl
noncomputable def M_rowsBy_b1  (vq1 : Int32) (σ2 : Mem) : Option ((Int32 × Mem) ⊕ (Mem)) := if (M_all σ2) < vq1 then some (.inr σ2) else lt (if vq1 = 0 then 1 else 0 : Int32) (fun vq18 => (wr σ2 45 vq1 vq18).bind (fun σ19 => lt (vq1 + 1) (fun vq21 => some (.inl (vq21, σ19)))))
noncomputable def M_rowsBy_b2 (vq23 : Int32) (vq46 : Int32) (vq47 : Int32) (σ48 : Mem) : Option ((Int32 × Mem) ⊕ (Mem)) := if (σ48 43 0) ≤ vq47 then some (.inr σ48) else (rd σ48 45 (vq23 ||| (1 <<< (vq47 &&& 31)))).bind (fun vq58 => ((if (M_isIn vq46 vq47) = 0 then some 0 else (rd σ48 45 vq23).bind (fun vq67 => some vq67) : Option (Int32))).bind (fun vq66 => (wr σ48 45 (vq23 ||| (1 <<< (vq47 &&& 31))) (vq58 + vq66)).bind (fun σ69 => lt (vq47 + 1) (fun vq71 => some (.inl (vq71, σ69))))))
noncomputable def M_rowsBy_b3 (x1 : Int32) (x2 : Int32) (vq23 : Int32) (σ24 : Mem) : Option ((Int32 × Mem) ⊕ (Mem)) := if (M_all σ24) ≤ vq23 then some (.inr σ24) else (rd σ24 45 vq23).bind (fun vq35 => ((if vq35 = 0 then some 0 else (M_nexts vq23 x1 x2 σ24).bind (fun vq42 => some vq42) : Option (Int32))).bind (fun vq46 => (lp (fun s => M_rowsBy_b2 vq23 vq46 s.1 s.2) fuel (0, σ24)).bind (fun σ49 => lt (vq23 + 1) (fun vq73 => some (.inl (vq73, σ49))))))
noncomputable def M_rowsBy (x1 : Int32) (x2 : Int32) (σ : Mem) : Option (Int32 × Mem) := (lp (fun s => M_rowsBy_b1 s.1 s.2) fuel (0, σ)).bind (fun σ3 => (lp (fun s => M_rowsBy_b3 x1 x2 s.1 s.2) fuel (0, σ3)).bind (fun σ25 => (rd σ25 45 (M_all σ25)).bind (fun vq76 => some (vq76, σ25))))
set_option maxHeartbeats 4000000 in
set_option maxRecDepth 100000 in
theorem c_M_rowsBy (l : Launch) (Y : Wx) (x1 : Int32) (x2 : Int32)  (σ : Mem) (o : Int32 × Mem) (hf : M_rowsBy x1 x2 σ = some o) : Ct l Y 1 y_M_rowsBy b_M_rowsBy 6 (some .int) 2 [.ref (adr Y 43), .int x1, .int x2] σ (some (.int o.1)) o.2 := by
  unfold M_rowsBy at hf
  refine ct_of (by decide) (Nat.le_of_ble_eq_true rfl) rfl (fun X hXl hX hR => ?_)
  subst hXl
  have hX : Fx X Y 1 b_M_rowsBy 6 R_M 2 := hX
  refine g_iconst hX 0 d_M_rowsBy_0 (by decide) ?_
  refine g_istore_nV hX [(3, .int 0), (0, .ref (adr Y 43)), (1, .int x1), (2, .int x2)] d_M_rowsBy_1 (by decide) rfl ?_
  obtain ⟨σ3, h7, h8⟩ := obind hf
  have KX8 : Gd X Y 1 σ3 [(0, .ref (adr Y 43)), (1, .int x1), (2, .int x2)] 31 [] := by
    refine g_iconst hX 0 d_M_rowsBy_31 (by decide) ?_
    refine g_istore_nV hX [(3, .int 0), (0, .ref (adr Y 43)), (1, .int x1), (2, .int x2)] d_M_rowsBy_32 (by decide) rfl ?_
    obtain ⟨σ25, h29, h30⟩ := obind h8
    have KX30 : Gd X Y 1 σ25 [(0, .ref (adr Y 43))] 121 [] := by
      refine g_aload_n hX d_M_rowsBy_121 0 rfl ?_
      refine g_getR hX iw_43 sh_43 rfl fl_M_17 d_M_rowsBy_122 ?_
      refine g_aload_n hX d_M_rowsBy_125 0 rfl ?_
      refine g_callV hX [] [.ref (adr Y 45)] mv_M_110 (c_M_all X.2.1 Y σ25 _ rfl) (by decide) iw_43 sh_43 rfl rfl rfl (Nat.le_of_ble_eq_true rfl) d_M_rowsBy_126 (fun h75 => ?_)
      show Gd X Y 1 σ25 [(0, .ref (adr Y 43))] 129 [.int (M_all σ25), .ref (adr Y 45)]
      refine g_iaload hX iw_45 sh_45 d_M_rowsBy_129 h30 (fun vq76 h77 => ?_)
      cases h77
      exact g_ireturn hX hR d_M_rowsBy_130
    refine g_sub (lv2 := [(0, .ref (adr Y 43)), (1, .int x1), (2, .int x2), (3, .int 0)]) [1, 2, 3, 0] rfl ?_
    refine g_loop (fun s => M_rowsBy_b3 x1 x2 s.1 s.2) (fun s => Gd X Y 1 s.2 [(0, .ref (adr Y 43)), (1, .int x1), (2, .int x2), (3, .int s.1)] 33 []) σ25 ?_ fuel (0, σ3) h29
    intro s y28 h28 h26 h27
    obtain ⟨vq23, σ24⟩ := s
    have h28 : M_rowsBy_b3 x1 x2 vq23 σ24 = some y28 := h28
    unfold M_rowsBy_b3 at h28
    show Gd X Y 1 σ24 [(0, .ref (adr Y 43)), (1, .int x1), (2, .int x2), (3, .int vq23)] 33 []
    refine g_iload_n hX d_M_rowsBy_33 3 rfl ?_
    refine g_aload_n hX d_M_rowsBy_34 0 rfl ?_
    refine g_callV hX [] [.int vq23] mv_M_110 (c_M_all X.2.1 Y σ24 _ rfl) (by decide) iw_43 sh_43 rfl rfl rfl (Nat.le_of_ble_eq_true rfl) d_M_rowsBy_35 (fun h32 => ?_)
    show Gd X Y 1 σ24 [(0, .ref (adr Y 43)), (1, .int x1), (2, .int x2), (3, .int vq23)] 38 [.int (M_all σ24), .int vq23]
    refine g_icmp_ge hX 121 d_M_rowsBy_38 (by decide) h28 (fun h33 => ?_) (fun h34 => ?_)
    · refine g_sub (lv2 := [(0, .ref (adr Y 43))]) [0] rfl ?_
      cases h33
      have h31 := h27 σ24 rfl
      cases h31
      exact KX30
    · refine g_aload_n hX d_M_rowsBy_41 0 rfl ?_
      refine g_getR hX iw_43 sh_43 rfl fl_M_17 d_M_rowsBy_42 ?_
      refine g_iload_n hX d_M_rowsBy_45 3 rfl ?_
      refine g_iaload hX iw_45 sh_45 d_M_rowsBy_46 h34 (fun vq35 h36 => ?_)
      obtain ⟨vq46, h37, h38⟩ := obind h36
      have KJ38 : Gd X Y 1 σ24 [(0, .ref (adr Y 43)), (1, .int x1), (2, .int x2), (3, .int vq23)] 61 [.int vq46] := by
        refine g_istoreV hX [(4, .int vq46), (0, .ref (adr Y 43)), (1, .int x1), (2, .int x2), (3, .int vq23)] d_M_rowsBy_61 (by decide) rfl ?_
        refine g_iconst hX 0 d_M_rowsBy_63 (by decide) ?_
        refine g_istoreV hX [(5, .int 0), (4, .int vq46), (0, .ref (adr Y 43)), (1, .int x1), (2, .int x2), (3, .int vq23)] d_M_rowsBy_64 (by decide) rfl ?_
        obtain ⟨σ49, h53, h54⟩ := obind h38
        have KX54 : Gd X Y 1 σ49 [(0, .ref (adr Y 43)), (1, .int x1), (2, .int x2), (3, .int vq23)] 115 [] := by
          refine g_iinc hX (fun vq73 => [(3, .int vq73), (0, .ref (adr Y 43)), (1, .int x1), (2, .int x2)]) d_M_rowsBy_115 3 rfl rfl (by decide) (fun _ => rfl) h54 (fun vq73 h74 => ?_)
          refine g_goto hX 33 d_M_rowsBy_118 (by decide) ?_
          refine g_sub (lv2 := [(0, .ref (adr Y 43)), (1, .int x1), (2, .int x2), (3, .int vq73)]) [1, 2, 3, 0] rfl ?_
          cases h74
          exact h26 (vq73, σ49) rfl
        refine g_sub (lv2 := [(0, .ref (adr Y 43)), (1, .int x1), (2, .int x2), (3, .int vq23), (4, .int vq46), (5, .int 0)]) [2, 3, 4, 5, 1, 0] rfl ?_
        refine g_loop (fun s => M_rowsBy_b2 vq23 vq46 s.1 s.2) (fun s => Gd X Y 1 s.2 [(0, .ref (adr Y 43)), (1, .int x1), (2, .int x2), (3, .int vq23), (4, .int vq46), (5, .int s.1)] 66 []) σ49 ?_ fuel (0, σ24) h53
        intro s y52 h52 h50 h51
        obtain ⟨vq47, σ48⟩ := s
        have h52 : M_rowsBy_b2 vq23 vq46 vq47 σ48 = some y52 := h52
        unfold M_rowsBy_b2 at h52
        show Gd X Y 1 σ48 [(0, .ref (adr Y 43)), (1, .int x1), (2, .int x2), (3, .int vq23), (4, .int vq46), (5, .int vq47)] 66 []
        refine g_iload hX d_M_rowsBy_66 5 rfl ?_
        refine g_aload_n hX d_M_rowsBy_68 0 rfl ?_
        refine g_getI hX iw_43 sh_43 rfl fl_M_7.f d_M_rowsBy_69 ?_
        refine g_icmp_ge hX 115 d_M_rowsBy_72 (by decide) h52 (fun h56 => ?_) (fun h57 => ?_)
        · refine g_sub (lv2 := [(0, .ref (adr Y 43)), (1, .int x1), (2, .int x2), (3, .int vq23)]) [0, 1, 2, 3] rfl ?_
          cases h56
          have h55 := h51 σ48 rfl
          cases h55
          exact KX54
        · refine g_aload_n hX d_M_rowsBy_75 0 rfl ?_
          refine g_getR hX iw_43 sh_43 rfl fl_M_17 d_M_rowsBy_76 ?_
          refine g_iload_n hX d_M_rowsBy_79 3 rfl ?_
          refine g_iconst hX 1 d_M_rowsBy_80 (by decide) ?_
          refine g_iload hX d_M_rowsBy_81 5 rfl ?_
          refine g_ishl hX d_M_rowsBy_83 ?_
          refine g_ior hX d_M_rowsBy_84 ?_
          refine g_dup2 hX d_M_rowsBy_85 rfl rfl ?_
          refine g_iaload hX iw_45 sh_45 d_M_rowsBy_86 h57 (fun vq58 h59 => ?_)
          refine g_iload hX d_M_rowsBy_87 4 rfl ?_
          refine g_iload hX d_M_rowsBy_89 5 rfl ?_
          refine g_callS hX [.int vq46, .int vq47] [.int vq58, .int (vq23 ||| (1 <<< (vq47 &&& 31))), .ref (adr Y 45)] mv_M_81 (c_M_isIn X.2.1 Y vq46 vq47 σ48 _ rfl) (by decide) rfl rfl (Nat.le_of_ble_eq_true rfl) d_M_rowsBy_91 (fun h60 => ?_)
          show Gd X Y 1 σ48 [(0, .ref (adr Y 43)), (1, .int x1), (2, .int x2), (3, .int vq23), (4, .int vq46), (5, .int vq47)] 94 [.int (M_isIn vq46 vq47), .int vq58, .int (vq23 ||| (1 <<< (vq47 &&& 31))), .ref (adr Y 45)]
          obtain ⟨vq66, h61, h62⟩ := obind h59
          have KJ62 : Gd X Y 1 σ48 [(0, .ref (adr Y 43)), (1, .int x1), (2, .int x2), (3, .int vq23), (4, .int vq46), (5, .int vq47)] 107 [.int vq66, .int vq58, .int (vq23 ||| (1 <<< (vq47 &&& 31))), .ref (adr Y 45)] := by
            refine g_iadd hX d_M_rowsBy_107 ?_
            refine g_iastore hX iw_45 sh_45 d_M_rowsBy_108 h62 (fun σ69 h70 => ?_)
            refine g_iinc hX (fun vq71 => [(5, .int vq71), (0, .ref (adr Y 43)), (1, .int x1), (2, .int x2), (3, .int vq23), (4, .int vq46)]) d_M_rowsBy_109 5 rfl rfl (by decide) (fun _ => rfl) h70 (fun vq71 h72 => ?_)
            refine g_goto hX 66 d_M_rowsBy_112 (by decide) ?_
            refine g_sub (lv2 := [(0, .ref (adr Y 43)), (1, .int x1), (2, .int x2), (3, .int vq23), (4, .int vq46), (5, .int vq71)]) [1, 2, 3, 4, 5, 0] rfl ?_
            cases h72
            exact h50 (vq71, σ69) rfl
          refine g_if_eq hX 106 d_M_rowsBy_94 (by decide) h61 (fun h64 => ?_) (fun h65 => ?_)
          · refine g_iconst hX 0 d_M_rowsBy_106 (by decide) ?_
            refine g_sub (lv2 := [(0, .ref (adr Y 43)), (1, .int x1), (2, .int x2), (3, .int vq23), (4, .int vq46), (5, .int vq47)]) [0, 1, 2, 3, 4, 5] rfl ?_
            cases h64
            exact KJ62
          · refine g_aload_n hX d_M_rowsBy_97 0 rfl ?_
            refine g_getR hX iw_43 sh_43 rfl fl_M_17 d_M_rowsBy_98 ?_
            refine g_iload_n hX d_M_rowsBy_101 3 rfl ?_
            refine g_iaload hX iw_45 sh_45 d_M_rowsBy_102 h65 (fun vq67 h68 => ?_)
            refine g_goto hX 107 d_M_rowsBy_103 (by decide) ?_
            refine g_sub (lv2 := [(0, .ref (adr Y 43)), (1, .int x1), (2, .int x2), (3, .int vq23), (4, .int vq46), (5, .int vq47)]) [0, 1, 2, 3, 4, 5] rfl ?_
            cases h68
            exact KJ62
      refine g_if_ne hX 54 d_M_rowsBy_47 (by decide) h37 (fun h40 => ?_) (fun h41 => ?_)
      · refine g_aload_n hX d_M_rowsBy_54 0 rfl ?_
        refine g_iload_n hX d_M_rowsBy_55 3 rfl ?_
        refine g_iload_n hX d_M_rowsBy_56 1 rfl ?_
        refine g_iload_n hX d_M_rowsBy_57 2 rfl ?_
        obtain ⟨vq42, h43, h44⟩ := obind h40
        refine g_callV hX [.int vq23, .int x1, .int x2] [] mv_M_113 (c_M_nexts X.2.1 Y vq23 x1 x2 σ24 _ h43) (by decide) iw_43 sh_43 rfl rfl rfl (Nat.le_of_ble_eq_true rfl) d_M_rowsBy_58 (fun h45 => ?_)
        show Gd X Y 1 σ24 [(0, .ref (adr Y 43)), (1, .int x1), (2, .int x2), (3, .int vq23)] 61 [.int vq42]
        refine g_sub (lv2 := [(0, .ref (adr Y 43)), (1, .int x1), (2, .int x2), (3, .int vq23)]) [0, 1, 2, 3] rfl ?_
        cases h44
        exact KJ38
      · refine g_iconst hX 0 d_M_rowsBy_50 (by decide) ?_
        refine g_goto hX 61 d_M_rowsBy_51 (by decide) ?_
        refine g_sub (lv2 := [(0, .ref (adr Y 43)), (1, .int x1), (2, .int x2), (3, .int vq23)]) [0, 1, 2, 3] rfl ?_
        cases h41
        exact KJ38
  refine g_sub (lv2 := [(0, .ref (adr Y 43)), (1, .int x1), (2, .int x2), (3, .int 0)]) [1, 2, 3, 0] rfl ?_
  refine g_loop (fun s => M_rowsBy_b1 s.1 s.2) (fun s => Gd X Y 1 s.2 [(0, .ref (adr Y 43)), (1, .int x1), (2, .int x2), (3, .int s.1)] 2 []) σ3 ?_ fuel (0, σ) h7
  intro s y6 h6 h4 h5
  obtain ⟨vq1, σ2⟩ := s
  have h6 : M_rowsBy_b1 vq1 σ2 = some y6 := h6
  unfold M_rowsBy_b1 at h6
  show Gd X Y 1 σ2 [(0, .ref (adr Y 43)), (1, .int x1), (2, .int x2), (3, .int vq1)] 2 []
  refine g_iload_n hX d_M_rowsBy_2 3 rfl ?_
  refine g_aload_n hX d_M_rowsBy_3 0 rfl ?_
  refine g_callV hX [] [.int vq1] mv_M_110 (c_M_all X.2.1 Y σ2 _ rfl) (by decide) iw_43 sh_43 rfl rfl rfl (Nat.le_of_ble_eq_true rfl) d_M_rowsBy_4 (fun h10 => ?_)
  show Gd X Y 1 σ2 [(0, .ref (adr Y 43)), (1, .int x1), (2, .int x2), (3, .int vq1)] 7 [.int (M_all σ2), .int vq1]
  refine g_icmp_gt hX 31 d_M_rowsBy_7 (by decide) h6 (fun h11 => ?_) (fun h12 => ?_)
  · refine g_sub (lv2 := [(0, .ref (adr Y 43)), (1, .int x1), (2, .int x2)]) [0, 1, 2] rfl ?_
    cases h11
    have h9 := h5 σ2 rfl
    cases h9
    exact KX8
  · refine g_aload_n hX d_M_rowsBy_10 0 rfl ?_
    refine g_getR hX iw_43 sh_43 rfl fl_M_17 d_M_rowsBy_11 ?_
    refine g_iload_n hX d_M_rowsBy_14 3 rfl ?_
    refine g_iload_n hX d_M_rowsBy_15 3 rfl ?_
    obtain ⟨vq18, h13, h14⟩ := ltex h12
    have KJ14 : okR (some .boolean) (some (.int vq18)) → Gd X Y 1 σ2 [(0, .ref (adr Y 43)), (1, .int x1), (2, .int x2), (3, .int vq1)] 24 [.int vq18, .int vq1, .ref (adr Y 45)] := by
      intro hbvq18
      refine g_iastore hX iw_45 sh_45 d_M_rowsBy_24 h14 (fun σ19 h20 => ?_)
      refine g_iinc hX (fun vq21 => [(3, .int vq21), (0, .ref (adr Y 43)), (1, .int x1), (2, .int x2)]) d_M_rowsBy_25 3 rfl rfl (by decide) (fun _ => rfl) h20 (fun vq21 h22 => ?_)
      refine g_goto hX 2 d_M_rowsBy_28 (by decide) ?_
      refine g_sub (lv2 := [(0, .ref (adr Y 43)), (1, .int x1), (2, .int x2), (3, .int vq21)]) [1, 2, 3, 0] rfl ?_
      cases h22
      exact h4 (vq21, σ19) rfl
    refine g_if_ne hX 23 d_M_rowsBy_16 (by decide) h13 (fun h16 => ?_) (fun h17 => ?_)
    · refine g_iconst hX 0 d_M_rowsBy_23 (by decide) ?_
      refine g_sub (lv2 := [(0, .ref (adr Y 43)), (1, .int x1), (2, .int x2), (3, .int vq1)]) [0, 1, 2, 3] rfl ?_
      cases h16
      exact KJ14 okB0
    · refine g_iconst hX 1 d_M_rowsBy_19 (by decide) ?_
      refine g_goto hX 24 d_M_rowsBy_20 (by decide) ?_
      refine g_sub (lv2 := [(0, .ref (adr Y 43)), (1, .int x1), (2, .int x2), (3, .int vq1)]) [0, 1, 2, 3] rfl ?_
      cases h17
      exact KJ14 okB1
noncomputable def M_takenNow_b1  (vq1 : Int32) (vq2 : Int32) (σ3 : Mem) : Option ((Int32 × Int32 × Mem) ⊕ (Int32 × Mem)) := if (σ3 43 1) ≤ vq2 then some (.inr (vq1, σ3)) else (M_rowsBy (vq1 ||| (1 <<< (vq2 &&& 31))) 0 σ3).bind (fun q => lt q.1 (fun vq14 => lt q.2 (fun σ15 => lt (if vq14 ≤ 0 then 0 else (1 <<< (vq2 &&& 31)) : Int32) (fun vq24 => lt (vq1 ||| vq24) (fun vq25 => lt (vq2 + 1) (fun vq27 => some (.inl (vq25, vq27, σ15))))))))
noncomputable def M_takenNow  (σ : Mem) : Option (Int32 × Mem) := (lp (fun s => M_takenNow_b1 s.1 s.2.1 s.2.2) fuel (0, 0, σ)).bind (fun q => lt q.1 (fun vq4 => lt q.2 (fun σ5 => some (vq4, σ5))))
set_option maxHeartbeats 4000000 in
set_option maxRecDepth 100000 in
theorem c_M_takenNow (l : Launch) (Y : Wx)   (σ : Mem) (o : Int32 × Mem) (hf : M_takenNow σ = some o) : Ct l Y 1 y_M_takenNow b_M_takenNow 3 (some .int) 3 [.ref (adr Y 43)] σ (some (.int o.1)) o.2 := by
  unfold M_takenNow at hf
  refine ct_of (by decide) (Nat.le_of_ble_eq_true rfl) rfl (fun X hXl hX hR => ?_)
  subst hXl
  have hX : Fx X Y 1 b_M_takenNow 3 R_M 3 := hX
  refine g_iconst hX 0 d_M_takenNow_0 (by decide) ?_
  refine g_istore_nV hX [(1, .int 0), (0, .ref (adr Y 43))] d_M_takenNow_1 (by decide) rfl ?_
  refine g_iconst hX 0 d_M_takenNow_2 (by decide) ?_
  refine g_istore_nV hX [(2, .int 0), (1, .int 0), (0, .ref (adr Y 43))] d_M_takenNow_3 (by decide) rfl ?_
  obtain ⟨⟨vq4, σ5⟩, h9, h10⟩ := obind hf
  have h10 := lt2 h10
  have KX10 : Gd X Y 1 σ5 [(1, .int vq4)] 41 [] := by
    refine g_iload_n hX d_M_takenNow_41 0 rfl ?_
    cases h10
    exact g_ireturn hX hR d_M_takenNow_42
  refine g_sub (lv2 := [(0, .ref (adr Y 43)), (1, .int 0), (2, .int 0)]) [2, 1, 0] rfl ?_
  refine g_loop (fun s => M_takenNow_b1 s.1 s.2.1 s.2.2) (fun s => Gd X Y 1 s.2.2 [(0, .ref (adr Y 43)), (1, .int s.1), (2, .int s.2.1)] 4 []) (vq4, σ5) ?_ fuel (0, 0, σ) h9
  intro s y8 h8 h6 h7
  obtain ⟨vq1, vq2, σ3⟩ := s
  have h8 : M_takenNow_b1 vq1 vq2 σ3 = some y8 := h8
  unfold M_takenNow_b1 at h8
  show Gd X Y 1 σ3 [(0, .ref (adr Y 43)), (1, .int vq1), (2, .int vq2)] 4 []
  refine g_iload_n hX d_M_takenNow_4 2 rfl ?_
  refine g_aload_n hX d_M_takenNow_5 0 rfl ?_
  refine g_getI hX iw_43 sh_43 rfl fl_M_93.f d_M_takenNow_6 ?_
  refine g_icmp_ge hX 41 d_M_takenNow_9 (by decide) h8 (fun h12 => ?_) (fun h13 => ?_)
  · refine g_sub (lv2 := [(1, .int vq1)]) [1] rfl ?_
    cases h12
    have h11 := h7 (vq1, σ3) rfl
    cases h11
    exact KX10
  · refine g_iload_n hX d_M_takenNow_12 1 rfl ?_
    refine g_aload_n hX d_M_takenNow_13 0 rfl ?_
    refine g_iload_n hX d_M_takenNow_14 1 rfl ?_
    refine g_iconst hX 1 d_M_takenNow_15 (by decide) ?_
    refine g_iload_n hX d_M_takenNow_16 2 rfl ?_
    refine g_ishl hX d_M_takenNow_17 ?_
    refine g_ior hX d_M_takenNow_18 ?_
    refine g_iconst hX 0 d_M_takenNow_19 (by decide) ?_
    obtain ⟨⟨vq14, σ15⟩, h16, h17⟩ := obind h13
    have h17 := lt2 h17
    refine g_callV hX [.int (vq1 ||| (1 <<< (vq2 &&& 31))), .int 0] [.int vq1] mv_M_117 (c_M_rowsBy X.2.1 Y (vq1 ||| (1 <<< (vq2 &&& 31))) 0 σ3 _ h16) (by decide) iw_43 sh_43 rfl rfl rfl (Nat.le_of_ble_eq_true rfl) d_M_takenNow_20 (fun h18 => ?_)
    show Gd X Y 1 σ15 [(0, .ref (adr Y 43)), (1, .int vq1), (2, .int vq2)] 23 [.int vq14, .int vq1]
    obtain ⟨vq24, h19, h20⟩ := ltex h17
    have KJ20 : Gd X Y 1 σ15 [(0, .ref (adr Y 43)), (2, .int vq2)] 33 [.int vq24, .int vq1] := by
      refine g_ior hX d_M_takenNow_33 ?_
      refine g_istore_n hX (fun vq25 => [(1, .int vq25), (0, .ref (adr Y 43)), (2, .int vq2)]) d_M_takenNow_34 (by decide) (fun _ => rfl) h20 (fun vq25 h26 => ?_)
      refine g_iinc hX (fun vq27 => [(2, .int vq27), (1, .int vq25), (0, .ref (adr Y 43))]) d_M_takenNow_35 2 rfl rfl (by decide) (fun _ => rfl) h26 (fun vq27 h28 => ?_)
      refine g_goto hX 4 d_M_takenNow_38 (by decide) ?_
      refine g_sub (lv2 := [(0, .ref (adr Y 43)), (1, .int vq25), (2, .int vq27)]) [2, 1, 0] rfl ?_
      cases h28
      exact h6 (vq25, vq27, σ15) rfl
    refine g_if_le hX 32 d_M_takenNow_23 (by decide) h19 (fun h22 => ?_) (fun h23 => ?_)
    · refine g_iconst hX 0 d_M_takenNow_32 (by decide) ?_
      refine g_sub (lv2 := [(0, .ref (adr Y 43)), (2, .int vq2)]) [0, 2] rfl ?_
      cases h22
      exact KJ20
    · refine g_iconst hX 1 d_M_takenNow_26 (by decide) ?_
      refine g_iload_n hX d_M_takenNow_27 2 rfl ?_
      refine g_ishl hX d_M_takenNow_28 ?_
      refine g_goto hX 33 d_M_takenNow_29 (by decide) ?_
      refine g_sub (lv2 := [(0, .ref (adr Y 43)), (2, .int vq2)]) [0, 2] rfl ?_
      cases h23
      exact KJ20
noncomputable def M_adds (x1 : Int32) (σ : Mem) : Option (Int32 × Mem) := ((if (M_in x1 0 255) = 0 then some true else (M_many x1).bind (fun vq7 => if 2 ≤ vq7 then some false else some true) : Option (Bool))).bind (fun bq2 => if bq2 = true then some ((-2), σ) else if (σ 43 1) = 10 then some ((-4), σ) else (wr σ 44 (σ 43 1) x1).bind (fun σ17 => lt (mput σ17 43 1 ((σ17 43 1) + 1)) (fun σ19 => (M_takenNow σ19).bind (fun q => lt q.1 (fun vq21 => lt q.2 (fun σ22 => lt (if (M_isIn vq21 ((σ22 43 1) - 1)) = 0 then 0 else 1 : Int32) (fun vq32 => some (vq32, σ22))))))))
set_option maxHeartbeats 4000000 in
set_option maxRecDepth 100000 in
theorem c_M_adds (l : Launch) (Y : Wx) (x1 : Int32)  (σ : Mem) (o : Int32 × Mem) (hf : M_adds x1 σ = some o) : Ct l Y 1 y_M_adds b_M_adds 2 (some .int) 4 [.ref (adr Y 43), .int x1] σ (some (.int o.1)) o.2 := by
  unfold M_adds at hf
  refine ct_of (by decide) (Nat.le_of_ble_eq_true rfl) rfl (fun X hXl hX hR => ?_)
  subst hXl
  have hX : Fx X Y 1 b_M_adds 2 R_M 4 := hX
  refine g_iload_n hX d_M_adds_0 1 rfl ?_
  refine g_iconst hX 0 d_M_adds_1 (by decide) ?_
  refine g_sipush hX 255 d_M_adds_2 (by decide) ?_
  refine g_callS hX [.int x1, .int 0, .int 255] [] mv_M_85 (c_M_in X.2.1 Y x1 0 255 σ _ rfl) (by decide) rfl rfl (Nat.le_of_ble_eq_true rfl) d_M_adds_5 (fun h1 => ?_)
  show Gd X Y 1 σ [(0, .ref (adr Y 43)), (1, .int x1)] 8 [.int (M_in x1 0 255)]
  obtain ⟨bq2, h3, h4⟩ := obind hf
  have Kbq2t : bq2 = true → Gd X Y 1 σ [(0, .ref (adr Y 43)), (1, .int x1)] 19 [] := by
    intro h33
    have h13 := (if_pos h33).symm.trans h4
    refine g_bipush hX (-2) d_M_adds_19 (by decide) ?_
    cases h13
    exact g_ireturn hX hR d_M_adds_21
  have Kbq2f : ¬ bq2 = true → Gd X Y 1 σ [(0, .ref (adr Y 43)), (1, .int x1)] 22 [] := by
    intro h33
    have h14 := (if_neg h33).symm.trans h4
    refine g_aload_n hX d_M_adds_22 0 rfl ?_
    refine g_getI hX iw_43 sh_43 rfl fl_M_93.f d_M_adds_23 ?_
    refine g_bipush hX 10 d_M_adds_26 (by decide) ?_
    refine g_icmp_ne hX 34 d_M_adds_28 (by decide) h14 (fun h15 => ?_) (fun h16 => ?_)
    · refine g_aload_n hX d_M_adds_34 0 rfl ?_
      refine g_getR hX iw_43 sh_43 rfl fl_M_13 d_M_adds_35 ?_
      refine g_aload_n hX d_M_adds_38 0 rfl ?_
      refine g_getI hX iw_43 sh_43 rfl fl_M_93.f d_M_adds_39 ?_
      refine g_iload_n hX d_M_adds_42 1 rfl ?_
      refine g_iastore hX iw_44 sh_44 d_M_adds_43 h15 (fun σ17 h18 => ?_)
      refine g_aload_n hX d_M_adds_44 0 rfl ?_
      refine g_dup hX d_M_adds_45 rfl ?_
      refine g_getI hX iw_43 sh_43 rfl fl_M_93.f d_M_adds_46 ?_
      refine g_iconst hX 1 d_M_adds_49 (by decide) ?_
      refine g_iadd hX d_M_adds_50 ?_
      refine g_putI hX iw_43 sh_43 rfl fl_M_93 d_M_adds_51 h18 (fun σ19 h20 => ?_)
      refine g_aload_n hX d_M_adds_54 0 rfl ?_
      obtain ⟨⟨vq21, σ22⟩, h23, h24⟩ := obind h20
      have h24 := lt2 h24
      refine g_callV hX [] [] mv_M_96 (c_M_takenNow X.2.1 Y σ19 _ h23) (by decide) iw_43 sh_43 rfl rfl rfl (Nat.le_of_ble_eq_true rfl) d_M_adds_55 (fun h25 => ?_)
      show Gd X Y 1 σ22 [(0, .ref (adr Y 43)), (1, .int x1)] 58 [.int vq21]
      refine g_aload_n hX d_M_adds_58 0 rfl ?_
      refine g_getI hX iw_43 sh_43 rfl fl_M_93.f d_M_adds_59 ?_
      refine g_iconst hX 1 d_M_adds_62 (by decide) ?_
      refine g_isub hX d_M_adds_63 ?_
      refine g_callS hX [.int vq21, .int ((σ22 43 1) - 1)] [] mv_M_81 (c_M_isIn X.2.1 Y vq21 ((σ22 43 1) - 1) σ22 _ rfl) (by decide) rfl rfl (Nat.le_of_ble_eq_true rfl) d_M_adds_64 (fun h26 => ?_)
      show Gd X Y 1 σ22 [(0, .ref (adr Y 43)), (1, .int x1)] 67 [.int (M_isIn vq21 ((σ22 43 1) - 1))]
      obtain ⟨vq32, h27, h28⟩ := ltex h24
      have KJ28 : okR (some .boolean) (some (.int vq32)) → Gd X Y 1 σ22 [] 75 [.int vq32] := by
        intro hbvq32
        cases h28
        exact g_ireturn hX hR d_M_adds_75
      refine g_if_eq hX 74 d_M_adds_67 (by decide) h27 (fun h30 => ?_) (fun h31 => ?_)
      · refine g_iconst hX 0 d_M_adds_74 (by decide) ?_
        refine g_sub (lv2 := []) [] rfl ?_
        cases h30
        exact KJ28 okB0
      · refine g_iconst hX 1 d_M_adds_70 (by decide) ?_
        refine g_goto hX 75 d_M_adds_71 (by decide) ?_
        refine g_sub (lv2 := []) [] rfl ?_
        cases h31
        exact KJ28 okB1
    · refine g_bipush hX (-4) d_M_adds_31 (by decide) ?_
      cases h16
      exact g_ireturn hX hR d_M_adds_33
  refine g_if_eq hX 19 d_M_adds_8 (by decide) h3 (fun h5 => ?_) (fun h6 => ?_)
  · cases h5
    exact Kbq2t rfl
  · refine g_iload_n hX d_M_adds_11 1 rfl ?_
    obtain ⟨vq7, h8, h9⟩ := obind h6
    refine g_callS hX [.int x1] [] mv_M_89 (c_M_many X.2.1 Y x1 σ _ h8) (by decide) rfl rfl (Nat.le_of_ble_eq_true rfl) d_M_adds_12 (fun h10 => ?_)
    show Gd X Y 1 σ [(0, .ref (adr Y 43)), (1, .int x1)] 15 [.int vq7]
    refine g_iconst hX 2 d_M_adds_15 (by decide) ?_
    refine g_icmp_ge hX 22 d_M_adds_16 (by decide) h9 (fun h11 => ?_) (fun h12 => ?_)
    · cases h11
      exact Kbq2f (by decide)
    · cases h12
      exact Kbq2t rfl
noncomputable def M_group (x1 : Int32) (σ : Mem) : Option (Int32 × Mem) := (M_adds x1 σ).bind (fun q => lt q.1 (fun vq1 => lt q.2 (fun σ2 => some (vq1, σ2))))
set_option maxHeartbeats 4000000 in
set_option maxRecDepth 100000 in
theorem c_M_group (l : Launch) (Y : Wx) (x1 : Int32)  (σ : Mem) (o : Int32 × Mem) (hf : M_group x1 σ = some o) : Ct l Y 1 y_M_group b_M_group 2 (some .int) 5 [.ref (adr Y 43), .int x1] σ (some (.int o.1)) o.2 := by
  unfold M_group at hf
  refine ct_of (by decide) (Nat.le_of_ble_eq_true rfl) rfl (fun X hXl hX hR => ?_)
  subst hXl
  have hX : Fx X Y 1 b_M_group 2 R_M 5 := hX
  refine g_aload_n hX d_M_group_0 0 rfl ?_
  refine g_iload_n hX d_M_group_1 1 rfl ?_
  obtain ⟨⟨vq1, σ2⟩, h3, h4⟩ := obind hf
  have h4 := lt2 h4
  refine g_callV hX [.int x1] [] mv_M_100 (c_M_adds X.2.1 Y x1 σ _ h3) (by decide) iw_43 sh_43 rfl rfl rfl (Nat.le_of_ble_eq_true rfl) d_M_group_2 (fun h5 => ?_)
  show Gd X Y 1 σ2 [(0, .ref (adr Y 43)), (1, .int x1)] 5 [.int vq1]
  cases h4
  exact g_ireturn hX hR d_M_group_5
noncomputable def M_back  (σ : Mem) : Int32 × Mem := if (σ 43 1) = 0 then ((-3), σ) else lt (mput σ 43 1 ((σ 43 1) - 1)) (fun σ3 => ((σ3 43 1), σ3))
set_option maxHeartbeats 4000000 in
set_option maxRecDepth 100000 in
theorem c_M_back (l : Launch) (Y : Wx)   (σ : Mem) (o : Int32 × Mem) (hf : M_back σ = o) : Ct l Y 1 y_M_back b_M_back 1 (some .int) 0 [.ref (adr Y 43)] σ (some (.int o.1)) o.2 := by
  unfold M_back at hf
  refine ct_of (by decide) (Nat.le_of_ble_eq_true rfl) rfl (fun X hXl hX hR => ?_)
  subst hXl
  have hX : Fx X Y 1 b_M_back 1 R_M 0 := hX
  refine g_aload_n hX d_M_back_0 0 rfl ?_
  refine g_getI hX iw_43 sh_43 rfl fl_M_93.f d_M_back_1 ?_
  refine g_if_ne hX 10 d_M_back_4 (by decide) hf (fun h1 => ?_) (fun h2 => ?_)
  · refine g_aload_n hX d_M_back_10 0 rfl ?_
    refine g_dup hX d_M_back_11 rfl ?_
    refine g_getI hX iw_43 sh_43 rfl fl_M_93.f d_M_back_12 ?_
    refine g_iconst hX 1 d_M_back_15 (by decide) ?_
    refine g_isub hX d_M_back_16 ?_
    refine g_putI hX iw_43 sh_43 rfl fl_M_93 d_M_back_17 h1 (fun σ3 h4 => ?_)
    refine g_aload_n hX d_M_back_20 0 rfl ?_
    refine g_getI hX iw_43 sh_43 rfl fl_M_93.f d_M_back_21 ?_
    cases h4
    exact g_ireturn hX hR d_M_back_24
  · refine g_bipush hX (-3) d_M_back_7 (by decide) ?_
    cases h2
    exact g_ireturn hX hR d_M_back_9
noncomputable def M_isSheet (x0 : Int32) : Int32 := (M_in x0 0 3)
set_option maxHeartbeats 4000000 in
set_option maxRecDepth 100000 in
theorem c_M_isSheet (l : Launch) (Y : Wx) (x0 : Int32)  (σ : Mem) (o : Int32) (hf : M_isSheet x0 = o) : Ct l Y 1 y_M_isSheet b_M_isSheet 1 (some .boolean) 1 [.int x0] σ (some (.int o)) σ := by
  unfold M_isSheet at hf
  refine ct_of (by decide) (Nat.le_of_ble_eq_true rfl) rfl (fun X hXl hX hR => ?_)
  subst hXl
  have hX : Fx X Y 1 b_M_isSheet 1 R_M 1 := hX
  refine g_iload_n hX d_M_isSheet_0 0 rfl ?_
  refine g_iconst hX 0 d_M_isSheet_1 (by decide) ?_
  refine g_iconst hX 3 d_M_isSheet_2 (by decide) ?_
  refine g_callS hX [.int x0, .int 0, .int 3] [] mv_M_85 (c_M_in X.2.1 Y x0 0 3 σ _ rfl) (by decide) rfl rfl (Nat.le_of_ble_eq_true rfl) d_M_isSheet_3 (fun h1 => ?_)
  show Gd X Y 1 σ [(0, .int x0)] 6 [.int (M_in x0 0 3)]
  cases hf
  exact g_zreturn hX hR h1 d_M_isSheet_6
noncomputable def M_meets (x1 : Int32) (σ : Mem) : Int32 × Mem := lt (mput σ 43 29 x1) (fun σ1 => (((-10) - x1), σ1))
set_option maxHeartbeats 4000000 in
set_option maxRecDepth 100000 in
theorem c_M_meets (l : Launch) (Y : Wx) (x1 : Int32)  (σ : Mem) (o : Int32 × Mem) (hf : M_meets x1 σ = o) : Ct l Y 1 y_M_meets b_M_meets 2 (some .int) 0 [.ref (adr Y 43), .int x1] σ (some (.int o.1)) o.2 := by
  unfold M_meets at hf
  refine ct_of (by decide) (Nat.le_of_ble_eq_true rfl) rfl (fun X hXl hX hR => ?_)
  subst hXl
  have hX : Fx X Y 1 b_M_meets 2 R_M 0 := hX
  refine g_aload_n hX d_M_meets_0 0 rfl ?_
  refine g_iload_n hX d_M_meets_1 1 rfl ?_
  refine g_putI hX iw_43 sh_43 rfl fl_M_248 d_M_meets_2 hf (fun σ1 h2 => ?_)
  refine g_bipush hX (-10) d_M_meets_5 (by decide) ?_
  refine g_iload_n hX d_M_meets_7 1 rfl ?_
  refine g_isub hX d_M_meets_8 ?_
  cases h2
  exact g_ireturn hX hR d_M_meets_9
noncomputable def M_read_b1 (x1 : Int32) (vq8 : Int32) (σ9 : Mem) : Option ((Int32 × Mem) ⊕ (Int32 × Mem)) := (rd σ9 63 x1).bind (fun vq18 => ((if vq18 ≤ vq8 then some (false, σ9) else (rd σ9 64 ((60 * x1) + vq8)).bind (fun vq26 => (M_adds vq26 σ9).bind (fun q => lt q.1 (fun vq28 => lt q.2 (fun σ29 => if vq28 < 0 then some (false, σ29) else some (true, σ29))))) : Option (Bool × Mem))).bind (fun q => lt q.1 (fun bq20 => lt q.2 (fun σ21 => if bq20 = true then lt (vq8 + 1) (fun vq37 => some (.inl (vq37, σ21))) else some (.inr (vq8, σ21))))))
noncomputable def M_read (x1 : Int32) (σ : Mem) : Option (Int32 × Mem) := if (M_isSheet x1) = 0 then some ((-2), σ) else (rd σ 61 x1).bind (fun vq4 => if vq4 = 0 then lt (M_meets 1 σ) (fun q => lt q.1 (fun vq40 => lt q.2 (fun σ41 => some (vq40, σ41)))) else (lp (fun s => M_read_b1 x1 s.1 s.2) fuel (0, σ)).bind (fun q => lt q.1 (fun vq10 => lt q.2 (fun σ11 => some (vq10, σ11)))))
set_option maxHeartbeats 4000000 in
set_option maxRecDepth 100000 in
theorem c_M_read (l : Launch) (Y : Wx) (x1 : Int32)  (σ : Mem) (o : Int32 × Mem) (hf : M_read x1 σ = some o) : Ct l Y 1 y_M_read b_M_read 3 (some .int) 5 [.ref (adr Y 43), .int x1] σ (some (.int o.1)) o.2 := by
  unfold M_read at hf
  refine ct_of (by decide) (Nat.le_of_ble_eq_true rfl) rfl (fun X hXl hX hR => ?_)
  subst hXl
  have hX : Fx X Y 1 b_M_read 3 R_M 5 := hX
  refine g_iload_n hX d_M_read_0 1 rfl ?_
  refine g_callS hX [.int x1] [] mv_M_103 (c_M_isSheet X.2.1 Y x1 σ _ rfl) (by decide) rfl rfl (Nat.le_of_ble_eq_true rfl) d_M_read_1 (fun h1 => ?_)
  show Gd X Y 1 σ [(0, .ref (adr Y 43)), (1, .int x1)] 4 [.int (M_isSheet x1)]
  refine g_if_ne hX 10 d_M_read_4 (by decide) hf (fun h2 => ?_) (fun h3 => ?_)
  · refine g_aload_n hX d_M_read_10 0 rfl ?_
    refine g_getR hX iw_43 sh_43 rfl fl_M_65 d_M_read_11 ?_
    refine g_iload_n hX d_M_read_14 1 rfl ?_
    refine g_baload hX iw_61 sh_61 d_M_read_15 h2 (fun vq4 h5 => ?_)
    refine g_if_ne hX 25 d_M_read_16 (by decide) h5 (fun h6 => ?_) (fun h7 => ?_)
    · refine g_iconst hX 0 d_M_read_25 (by decide) ?_
      refine g_istore_nV hX [(2, .int 0), (0, .ref (adr Y 43)), (1, .int x1)] d_M_read_26 (by decide) rfl ?_
      obtain ⟨⟨vq10, σ11⟩, h15, h16⟩ := obind h6
      have h16 := lt2 h16
      have KX16 : Gd X Y 1 σ11 [(2, .int vq10)] 61 [] := by
        refine g_iload_n hX d_M_read_61 0 rfl ?_
        cases h16
        exact g_ireturn hX hR d_M_read_62
      refine g_sub (lv2 := [(0, .ref (adr Y 43)), (1, .int x1), (2, .int 0)]) [1, 2, 0] rfl ?_
      refine g_loop (fun s => M_read_b1 x1 s.1 s.2) (fun s => Gd X Y 1 s.2 [(0, .ref (adr Y 43)), (1, .int x1), (2, .int s.1)] 27 []) (vq10, σ11) ?_ fuel (0, σ) h15
      intro s y14 h14 h12 h13
      obtain ⟨vq8, σ9⟩ := s
      have h14 : M_read_b1 x1 vq8 σ9 = some y14 := h14
      unfold M_read_b1 at h14
      show Gd X Y 1 σ9 [(0, .ref (adr Y 43)), (1, .int x1), (2, .int vq8)] 27 []
      refine g_iload_n hX d_M_read_27 2 rfl ?_
      refine g_aload_n hX d_M_read_28 0 rfl ?_
      refine g_getR hX iw_43 sh_43 rfl fl_M_72 d_M_read_29 ?_
      refine g_iload_n hX d_M_read_32 1 rfl ?_
      refine g_iaload hX iw_63 sh_63 d_M_read_33 h14 (fun vq18 h19 => ?_)
      obtain ⟨⟨bq20, σ21⟩, h22, h23⟩ := obind h19
      have h23 := lt2 h23
      have Kbq20t : bq20 = true → Gd X Y 1 σ21 [(0, .ref (adr Y 43)), (1, .int x1), (2, .int vq8)] 55 [] := by
        intro h39
        have h35 := (if_pos h39).symm.trans h23
        refine g_iinc hX (fun vq37 => [(2, .int vq37), (0, .ref (adr Y 43)), (1, .int x1)]) d_M_read_55 2 rfl rfl (by decide) (fun _ => rfl) h35 (fun vq37 h38 => ?_)
        refine g_goto hX 27 d_M_read_58 (by decide) ?_
        refine g_sub (lv2 := [(0, .ref (adr Y 43)), (1, .int x1), (2, .int vq37)]) [1, 2, 0] rfl ?_
        cases h38
        exact h12 (vq37, σ21) rfl
      have Kbq20f : ¬ bq20 = true → Gd X Y 1 σ21 [(0, .ref (adr Y 43)), (1, .int x1), (2, .int vq8)] 61 [] := by
        intro h39
        have h36 := (if_neg h39).symm.trans h23
        refine g_sub (lv2 := [(2, .int vq8)]) [2] rfl ?_
        cases h36
        have h17 := h13 (vq8, σ21) rfl
        cases h17
        exact KX16
      refine g_icmp_ge hX 61 d_M_read_34 (by decide) h22 (fun h24 => ?_) (fun h25 => ?_)
      · cases h24
        exact Kbq20f (by decide)
      · refine g_aload_n hX d_M_read_37 0 rfl ?_
        refine g_aload_n hX d_M_read_38 0 rfl ?_
        refine g_getR hX iw_43 sh_43 rfl fl_M_75 d_M_read_39 ?_
        refine g_bipush hX 60 d_M_read_42 (by decide) ?_
        refine g_iload_n hX d_M_read_44 1 rfl ?_
        refine g_imul hX d_M_read_45 ?_
        refine g_iload_n hX d_M_read_46 2 rfl ?_
        refine g_iadd hX d_M_read_47 ?_
        refine g_iaload hX iw_64 sh_64 d_M_read_48 h25 (fun vq26 h27 => ?_)
        obtain ⟨⟨vq28, σ29⟩, h30, h31⟩ := obind h27
        have h31 := lt2 h31
        refine g_callV hX [.int vq26] [] mv_M_100 (c_M_adds X.2.1 Y vq26 σ9 _ h30) (by decide) iw_43 sh_43 rfl rfl rfl (Nat.le_of_ble_eq_true rfl) d_M_read_49 (fun h32 => ?_)
        show Gd X Y 1 σ29 [(0, .ref (adr Y 43)), (1, .int x1), (2, .int vq8)] 52 [.int vq28]
        refine g_if_lt hX 61 d_M_read_52 (by decide) h31 (fun h33 => ?_) (fun h34 => ?_)
        · cases h33
          exact Kbq20f (by decide)
        · cases h34
          exact Kbq20t rfl
    · refine g_aload_n hX d_M_read_19 0 rfl ?_
      refine g_iconst hX 1 d_M_read_20 (by decide) ?_
      obtain ⟨⟨vq40, σ41⟩, h42, h43⟩ := ltex h7
      have h43 := lt2 h43
      refine g_callV hX [.int 1] [] mv_M_107 (c_M_meets X.2.1 Y 1 σ _ h42) (by decide) iw_43 sh_43 rfl rfl rfl (Nat.le_of_ble_eq_true rfl) d_M_read_21 (fun h44 => ?_)
      show Gd X Y 1 σ41 [(0, .ref (adr Y 43)), (1, .int x1)] 24 [.int vq40]
      cases h43
      exact g_ireturn hX hR d_M_read_24
  · refine g_bipush hX (-2) d_M_read_7 (by decide) ?_
    cases h3
    exact g_ireturn hX hR d_M_read_9
noncomputable def M_isGroup (x1 : Int32) (σ : Mem) : Int32 := (M_in x1 0 ((σ 43 1) - 1))
set_option maxHeartbeats 4000000 in
set_option maxRecDepth 100000 in
theorem c_M_isGroup (l : Launch) (Y : Wx) (x1 : Int32)  (σ : Mem) (o : Int32) (hf : M_isGroup x1 σ = o) : Ct l Y 1 y_M_isGroup b_M_isGroup 2 (some .boolean) 1 [.ref (adr Y 43), .int x1] σ (some (.int o)) σ := by
  unfold M_isGroup at hf
  refine ct_of (by decide) (Nat.le_of_ble_eq_true rfl) rfl (fun X hXl hX hR => ?_)
  subst hXl
  have hX : Fx X Y 1 b_M_isGroup 2 R_M 1 := hX
  refine g_iload_n hX d_M_isGroup_0 1 rfl ?_
  refine g_iconst hX 0 d_M_isGroup_1 (by decide) ?_
  refine g_aload_n hX d_M_isGroup_2 0 rfl ?_
  refine g_getI hX iw_43 sh_43 rfl fl_M_93.f d_M_isGroup_3 ?_
  refine g_iconst hX 1 d_M_isGroup_6 (by decide) ?_
  refine g_isub hX d_M_isGroup_7 ?_
  refine g_callS hX [.int x1, .int 0, .int ((σ 43 1) - 1)] [] mv_M_85 (c_M_in X.2.1 Y x1 0 ((σ 43 1) - 1) σ _ rfl) (by decide) rfl rfl (Nat.le_of_ble_eq_true rfl) d_M_isGroup_8 (fun h1 => ?_)
  show Gd X Y 1 σ [(0, .ref (adr Y 43)), (1, .int x1)] 11 [.int (M_in x1 0 ((σ 43 1) - 1))]
  cases hf
  exact g_zreturn hX hR h1 d_M_isGroup_11
noncomputable def M_taken (x1 : Int32) (σ : Mem) : Option (Int32 × Mem) := ((if (M_isGroup x1 σ) = 0 then some ((-2), σ) else (M_takenNow σ).bind (fun q => lt q.1 (fun vq9 => lt q.2 (fun σ10 => some (((vq9 >>> (x1 &&& 31)) &&& 1), σ10)))) : Option (Int32 × Mem))).bind (fun q => lt q.1 (fun vq7 => lt q.2 (fun σ8 => some (vq7, σ8))))
set_option maxHeartbeats 4000000 in
set_option maxRecDepth 100000 in
theorem c_M_taken (l : Launch) (Y : Wx) (x1 : Int32)  (σ : Mem) (o : Int32 × Mem) (hf : M_taken x1 σ = some o) : Ct l Y 1 y_M_taken b_M_taken 2 (some .int) 4 [.ref (adr Y 43), .int x1] σ (some (.int o.1)) o.2 := by
  unfold M_taken at hf
  refine ct_of (by decide) (Nat.le_of_ble_eq_true rfl) rfl (fun X hXl hX hR => ?_)
  subst hXl
  have hX : Fx X Y 1 b_M_taken 2 R_M 4 := hX
  refine g_aload_n hX d_M_taken_0 0 rfl ?_
  refine g_iload_n hX d_M_taken_1 1 rfl ?_
  refine g_callV hX [.int x1] [] mv_M_121 (c_M_isGroup X.2.1 Y x1 σ _ rfl) (by decide) iw_43 sh_43 rfl rfl rfl (Nat.le_of_ble_eq_true rfl) d_M_taken_2 (fun h1 => ?_)
  show Gd X Y 1 σ [(0, .ref (adr Y 43)), (1, .int x1)] 5 [.int (M_isGroup x1 σ)]
  obtain ⟨⟨vq7, σ8⟩, h2, h3⟩ := obind hf
  have h3 := lt2 h3
  have KJ3 : Gd X Y 1 σ8 [] 21 [.int vq7] := by
    cases h3
    exact g_ireturn hX hR d_M_taken_21
  refine g_if_eq hX 19 d_M_taken_5 (by decide) h2 (fun h5 => ?_) (fun h6 => ?_)
  · refine g_bipush hX (-2) d_M_taken_19 (by decide) ?_
    refine g_sub (lv2 := []) [] rfl ?_
    cases h5
    exact KJ3
  · refine g_aload_n hX d_M_taken_8 0 rfl ?_
    obtain ⟨⟨vq9, σ10⟩, h11, h12⟩ := obind h6
    have h12 := lt2 h12
    refine g_callV hX [] [] mv_M_96 (c_M_takenNow X.2.1 Y σ _ h11) (by decide) iw_43 sh_43 rfl rfl rfl (Nat.le_of_ble_eq_true rfl) d_M_taken_9 (fun h13 => ?_)
    show Gd X Y 1 σ10 [(0, .ref (adr Y 43)), (1, .int x1)] 12 [.int vq9]
    refine g_iload_n hX d_M_taken_12 1 rfl ?_
    refine g_ishr hX d_M_taken_13 ?_
    refine g_iconst hX 1 d_M_taken_14 (by decide) ?_
    refine g_iand hX d_M_taken_15 ?_
    refine g_goto hX 21 d_M_taken_16 (by decide) ?_
    refine g_sub (lv2 := []) [] rfl ?_
    cases h12
    exact KJ3
noncomputable def M_reasonOf_b1 (x1 : Int32) (vq11 : Int32) (vq12 : Int32) (σ13 : Mem) : Option ((Int32 × Int32 × Mem) ⊕ (Int32 × Mem)) := if x1 ≤ vq12 then some (.inr (vq11, σ13)) else lt (vq11 &&& ((1 <<< (vq12 &&& 31)) ^^^ (-1))) (fun vq24 => ((if (M_isIn vq11 vq12) = 0 then some (false, σ13) else (M_rowsBy (vq24 ||| (1 <<< (x1 &&& 31))) 0 σ13).bind (fun q => lt q.1 (fun vq33 => lt q.2 (fun σ34 => if vq33 = 0 then some (true, σ34) else some (false, σ34)))) : Option (Bool × Mem))).bind (fun q => lt q.1 (fun bq27 => lt q.2 (fun σ28 => lt (if bq27 = true then vq24 else vq11 : Int32) (fun vq45 => lt (vq12 + 1) (fun vq47 => some (.inl (vq45, vq47, σ28))))))))
noncomputable def M_reasonOf (x1 : Int32) (σ : Mem) : Option (Int32 × Mem) := (M_takenNow σ).bind (fun q => lt q.1 (fun vq1 => lt q.2 (fun σ2 => if (M_isIn vq1 x1) = 0 then lt (vq1 &&& ((1 <<< (x1 &&& 31)) - 1)) (fun vq9 => (lp (fun s => M_reasonOf_b1 x1 s.1 s.2.1 s.2.2) fuel (vq9, 0, σ2)).bind (fun q => lt q.1 (fun vq14 => lt q.2 (fun σ15 => some (vq14, σ15))))) else some ((-3), σ2))))
set_option maxHeartbeats 4000000 in
set_option maxRecDepth 100000 in
theorem c_M_reasonOf (l : Launch) (Y : Wx) (x1 : Int32)  (σ : Mem) (o : Int32 × Mem) (hf : M_reasonOf x1 σ = some o) : Ct l Y 1 y_M_reasonOf b_M_reasonOf 6 (some .int) 4 [.ref (adr Y 43), .int x1] σ (some (.int o.1)) o.2 := by
  unfold M_reasonOf at hf
  refine ct_of (by decide) (Nat.le_of_ble_eq_true rfl) rfl (fun X hXl hX hR => ?_)
  subst hXl
  have hX : Fx X Y 1 b_M_reasonOf 6 R_M 4 := hX
  refine g_aload_n hX d_M_reasonOf_0 0 rfl ?_
  obtain ⟨⟨vq1, σ2⟩, h3, h4⟩ := obind hf
  have h4 := lt2 h4
  refine g_callV hX [] [] mv_M_96 (c_M_takenNow X.2.1 Y σ _ h3) (by decide) iw_43 sh_43 rfl rfl rfl (Nat.le_of_ble_eq_true rfl) d_M_reasonOf_1 (fun h5 => ?_)
  show Gd X Y 1 σ2 [(0, .ref (adr Y 43)), (1, .int x1)] 4 [.int vq1]
  refine g_istore_nV hX [(2, .int vq1), (0, .ref (adr Y 43)), (1, .int x1)] d_M_reasonOf_4 (by decide) rfl ?_
  refine g_iload_n hX d_M_reasonOf_5 0 rfl ?_
  refine g_iload_n hX d_M_reasonOf_6 2 rfl ?_
  refine g_callS hX [.int vq1, .int x1] [] mv_M_81 (c_M_isIn X.2.1 Y vq1 x1 σ2 _ rfl) (by decide) rfl rfl (Nat.le_of_ble_eq_true rfl) d_M_reasonOf_7 (fun h6 => ?_)
  show Gd X Y 1 σ2 [(2, .int vq1), (0, .ref (adr Y 43)), (1, .int x1)] 10 [.int (M_isIn vq1 x1)]
  refine g_if_eq hX 16 d_M_reasonOf_10 (by decide) h4 (fun h7 => ?_) (fun h8 => ?_)
  · refine g_iload_n hX d_M_reasonOf_16 0 rfl ?_
    refine g_iconst hX 1 d_M_reasonOf_17 (by decide) ?_
    refine g_iload_n hX d_M_reasonOf_18 2 rfl ?_
    refine g_ishl hX d_M_reasonOf_19 ?_
    refine g_iconst hX 1 d_M_reasonOf_20 (by decide) ?_
    refine g_isub hX d_M_reasonOf_21 ?_
    refine g_iand hX d_M_reasonOf_22 ?_
    refine g_istore_n hX (fun vq9 => [(3, .int vq9), (2, .int vq1), (0, .ref (adr Y 43)), (1, .int x1)]) d_M_reasonOf_23 (by decide) (fun _ => rfl) h7 (fun vq9 h10 => ?_)
    refine g_iconst hX 0 d_M_reasonOf_24 (by decide) ?_
    refine g_istoreV hX [(4, .int 0), (3, .int vq9), (2, .int vq1), (0, .ref (adr Y 43)), (1, .int x1)] d_M_reasonOf_25 (by decide) rfl ?_
    obtain ⟨⟨vq14, σ15⟩, h19, h20⟩ := obind h10
    have h20 := lt2 h20
    have KX20 : Gd X Y 1 σ15 [(3, .int vq14)] 79 [] := by
      refine g_iload_n hX d_M_reasonOf_79 0 rfl ?_
      cases h20
      exact g_ireturn hX hR d_M_reasonOf_80
    refine g_sub (lv2 := [(0, .ref (adr Y 43)), (1, .int x1), (3, .int vq9), (4, .int 0)]) [3, 4, 1, 0] rfl ?_
    refine g_loop (fun s => M_reasonOf_b1 x1 s.1 s.2.1 s.2.2) (fun s => Gd X Y 1 s.2.2 [(0, .ref (adr Y 43)), (1, .int x1), (3, .int s.1), (4, .int s.2.1)] 27 []) (vq14, σ15) ?_ fuel (vq9, 0, σ2) h19
    intro s y18 h18 h16 h17
    obtain ⟨vq11, vq12, σ13⟩ := s
    have h18 : M_reasonOf_b1 x1 vq11 vq12 σ13 = some y18 := h18
    unfold M_reasonOf_b1 at h18
    show Gd X Y 1 σ13 [(0, .ref (adr Y 43)), (1, .int x1), (3, .int vq11), (4, .int vq12)] 27 []
    refine g_iload hX d_M_reasonOf_27 3 rfl ?_
    refine g_iload_n hX d_M_reasonOf_29 1 rfl ?_
    refine g_icmp_ge hX 79 d_M_reasonOf_30 (by decide) h18 (fun h22 => ?_) (fun h23 => ?_)
    · refine g_sub (lv2 := [(3, .int vq11)]) [2] rfl ?_
      cases h22
      have h21 := h17 (vq11, σ13) rfl
      cases h21
      exact KX20
    · refine g_iload_n hX d_M_reasonOf_33 2 rfl ?_
      refine g_iconst hX 1 d_M_reasonOf_34 (by decide) ?_
      refine g_iload hX d_M_reasonOf_35 3 rfl ?_
      refine g_ishl hX d_M_reasonOf_37 ?_
      refine g_iconst hX (-1) d_M_reasonOf_38 (by decide) ?_
      refine g_ixor hX d_M_reasonOf_39 ?_
      refine g_iand hX d_M_reasonOf_40 ?_
      refine g_istore hX (fun vq24 => [(5, .int vq24), (0, .ref (adr Y 43)), (1, .int x1), (3, .int vq11), (4, .int vq12)]) d_M_reasonOf_41 (by decide) (fun _ => rfl) h23 (fun vq24 h25 => ?_)
      refine g_iload_n hX d_M_reasonOf_43 3 rfl ?_
      refine g_iload hX d_M_reasonOf_44 4 rfl ?_
      refine g_callS hX [.int vq11, .int vq12] [] mv_M_81 (c_M_isIn X.2.1 Y vq11 vq12 σ13 _ rfl) (by decide) rfl rfl (Nat.le_of_ble_eq_true rfl) d_M_reasonOf_46 (fun h26 => ?_)
      show Gd X Y 1 σ13 [(5, .int vq24), (0, .ref (adr Y 43)), (1, .int x1), (3, .int vq11), (4, .int vq12)] 49 [.int (M_isIn vq11 vq12)]
      obtain ⟨⟨bq27, σ28⟩, h29, h30⟩ := obind h25
      have h30 := lt2 h30
      obtain ⟨vq45, h40, h41⟩ := ltex h30
      have KJ41 : Gd X Y 1 σ28 [(0, .ref (adr Y 43)), (1, .int x1), (4, .int vq12)] 72 [.int vq45] := by
        refine g_istore_nV hX [(3, .int vq45), (0, .ref (adr Y 43)), (1, .int x1), (4, .int vq12)] d_M_reasonOf_72 (by decide) rfl ?_
        refine g_iinc hX (fun vq47 => [(4, .int vq47), (3, .int vq45), (0, .ref (adr Y 43)), (1, .int x1)]) d_M_reasonOf_73 3 rfl rfl (by decide) (fun _ => rfl) h41 (fun vq47 h48 => ?_)
        refine g_goto hX 27 d_M_reasonOf_76 (by decide) ?_
        refine g_sub (lv2 := [(0, .ref (adr Y 43)), (1, .int x1), (3, .int vq45), (4, .int vq47)]) [2, 3, 1, 0] rfl ?_
        cases h48
        exact h16 (vq45, vq47, σ28) rfl
      have Kbq27t : bq27 = true → Gd X Y 1 σ28 [(5, .int vq24), (0, .ref (adr Y 43)), (1, .int x1), (3, .int vq11), (4, .int vq12)] 66 [] := by
        intro h46
        have h43 := (if_pos h46).symm.trans h40
        refine g_iload hX d_M_reasonOf_66 0 rfl ?_
        refine g_goto hX 72 d_M_reasonOf_68 (by decide) ?_
        refine g_sub (lv2 := [(0, .ref (adr Y 43)), (1, .int x1), (4, .int vq12)]) [1, 2, 4] rfl ?_
        cases h43
        exact KJ41
      have Kbq27f : ¬ bq27 = true → Gd X Y 1 σ28 [(5, .int vq24), (0, .ref (adr Y 43)), (1, .int x1), (3, .int vq11), (4, .int vq12)] 71 [] := by
        intro h46
        have h44 := (if_neg h46).symm.trans h40
        refine g_iload_n hX d_M_reasonOf_71 3 rfl ?_
        refine g_sub (lv2 := [(0, .ref (adr Y 43)), (1, .int x1), (4, .int vq12)]) [1, 2, 4] rfl ?_
        cases h44
        exact KJ41
      refine g_if_eq hX 71 d_M_reasonOf_49 (by decide) h29 (fun h31 => ?_) (fun h32 => ?_)
      · cases h31
        exact Kbq27f (by decide)
      · refine g_aload_n hX d_M_reasonOf_52 1 rfl ?_
        refine g_iload hX d_M_reasonOf_53 0 rfl ?_
        refine g_iconst hX 1 d_M_reasonOf_55 (by decide) ?_
        refine g_iload_n hX d_M_reasonOf_56 2 rfl ?_
        refine g_ishl hX d_M_reasonOf_57 ?_
        refine g_ior hX d_M_reasonOf_58 ?_
        refine g_iconst hX 0 d_M_reasonOf_59 (by decide) ?_
        obtain ⟨⟨vq33, σ34⟩, h35, h36⟩ := obind h32
        have h36 := lt2 h36
        refine g_callV hX [.int (vq24 ||| (1 <<< (x1 &&& 31))), .int 0] [] mv_M_117 (c_M_rowsBy X.2.1 Y (vq24 ||| (1 <<< (x1 &&& 31))) 0 σ13 _ h35) (by decide) iw_43 sh_43 rfl rfl rfl (Nat.le_of_ble_eq_true rfl) d_M_reasonOf_60 (fun h37 => ?_)
        show Gd X Y 1 σ34 [(5, .int vq24), (0, .ref (adr Y 43)), (1, .int x1), (3, .int vq11), (4, .int vq12)] 63 [.int vq33]
        refine g_if_ne hX 71 d_M_reasonOf_63 (by decide) h36 (fun h38 => ?_) (fun h39 => ?_)
        · cases h38
          exact Kbq27f (by decide)
        · cases h39
          exact Kbq27t rfl
  · refine g_bipush hX (-3) d_M_reasonOf_13 (by decide) ?_
    cases h8
    exact g_ireturn hX hR d_M_reasonOf_15
noncomputable def M_reason (x1 : Int32) (σ : Mem) : Option (Int32 × Mem) := ((if (M_isGroup x1 σ) = 0 then some ((-2), σ) else (M_reasonOf x1 σ).bind (fun q => lt q.1 (fun vq9 => lt q.2 (fun σ10 => some (vq9, σ10)))) : Option (Int32 × Mem))).bind (fun q => lt q.1 (fun vq7 => lt q.2 (fun σ8 => some (vq7, σ8))))
set_option maxHeartbeats 4000000 in
set_option maxRecDepth 100000 in
theorem c_M_reason (l : Launch) (Y : Wx) (x1 : Int32)  (σ : Mem) (o : Int32 × Mem) (hf : M_reason x1 σ = some o) : Ct l Y 1 y_M_reason b_M_reason 2 (some .int) 5 [.ref (adr Y 43), .int x1] σ (some (.int o.1)) o.2 := by
  unfold M_reason at hf
  refine ct_of (by decide) (Nat.le_of_ble_eq_true rfl) rfl (fun X hXl hX hR => ?_)
  subst hXl
  have hX : Fx X Y 1 b_M_reason 2 R_M 5 := hX
  refine g_aload_n hX d_M_reason_0 0 rfl ?_
  refine g_iload_n hX d_M_reason_1 1 rfl ?_
  refine g_callV hX [.int x1] [] mv_M_121 (c_M_isGroup X.2.1 Y x1 σ _ rfl) (by decide) iw_43 sh_43 rfl rfl rfl (Nat.le_of_ble_eq_true rfl) d_M_reason_2 (fun h1 => ?_)
  show Gd X Y 1 σ [(0, .ref (adr Y 43)), (1, .int x1)] 5 [.int (M_isGroup x1 σ)]
  obtain ⟨⟨vq7, σ8⟩, h2, h3⟩ := obind hf
  have h3 := lt2 h3
  have KJ3 : Gd X Y 1 σ8 [] 18 [.int vq7] := by
    cases h3
    exact g_ireturn hX hR d_M_reason_18
  refine g_if_eq hX 16 d_M_reason_5 (by decide) h2 (fun h5 => ?_) (fun h6 => ?_)
  · refine g_bipush hX (-2) d_M_reason_16 (by decide) ?_
    refine g_sub (lv2 := []) [] rfl ?_
    cases h5
    exact KJ3
  · refine g_aload_n hX d_M_reason_8 0 rfl ?_
    refine g_iload_n hX d_M_reason_9 1 rfl ?_
    obtain ⟨⟨vq9, σ10⟩, h11, h12⟩ := obind h6
    have h12 := lt2 h12
    refine g_callV hX [.int x1] [] mv_M_124 (c_M_reasonOf X.2.1 Y x1 σ _ h11) (by decide) iw_43 sh_43 rfl rfl rfl (Nat.le_of_ble_eq_true rfl) d_M_reason_10 (fun h13 => ?_)
    show Gd X Y 1 σ10 [(0, .ref (adr Y 43)), (1, .int x1)] 13 [.int vq9]
    refine g_goto hX 18 d_M_reason_13 (by decide) ?_
    refine g_sub (lv2 := []) [] rfl ?_
    cases h12
    exact KJ3
noncomputable def M_manyNow  (σ : Mem) : Option (Int32 × Mem) := (M_takenNow σ).bind (fun q => lt q.1 (fun vq1 => lt q.2 (fun σ2 => (M_rowsBy vq1 0 σ2).bind (fun q => lt q.1 (fun vq6 => lt q.2 (fun σ7 => some (vq6, σ7)))))))
set_option maxHeartbeats 4000000 in
set_option maxRecDepth 100000 in
theorem c_M_manyNow (l : Launch) (Y : Wx)   (σ : Mem) (o : Int32 × Mem) (hf : M_manyNow σ = some o) : Ct l Y 1 y_M_manyNow b_M_manyNow 1 (some .int) 4 [.ref (adr Y 43)] σ (some (.int o.1)) o.2 := by
  unfold M_manyNow at hf
  refine ct_of (by decide) (Nat.le_of_ble_eq_true rfl) rfl (fun X hXl hX hR => ?_)
  subst hXl
  have hX : Fx X Y 1 b_M_manyNow 1 R_M 4 := hX
  refine g_aload_n hX d_M_manyNow_0 0 rfl ?_
  refine g_aload_n hX d_M_manyNow_1 0 rfl ?_
  obtain ⟨⟨vq1, σ2⟩, h3, h4⟩ := obind hf
  have h4 := lt2 h4
  refine g_callV hX [] [.ref (adr Y 43)] mv_M_96 (c_M_takenNow X.2.1 Y σ _ h3) (by decide) iw_43 sh_43 rfl rfl rfl (Nat.le_of_ble_eq_true rfl) d_M_manyNow_2 (fun h5 => ?_)
  show Gd X Y 1 σ2 [(0, .ref (adr Y 43))] 5 [.int vq1, .ref (adr Y 43)]
  refine g_iconst hX 0 d_M_manyNow_5 (by decide) ?_
  obtain ⟨⟨vq6, σ7⟩, h8, h9⟩ := obind h4
  have h9 := lt2 h9
  refine g_callV hX [.int vq1, .int 0] [] mv_M_117 (c_M_rowsBy X.2.1 Y vq1 0 σ2 _ h8) (by decide) iw_43 sh_43 rfl rfl rfl (Nat.le_of_ble_eq_true rfl) d_M_manyNow_6 (fun h10 => ?_)
  show Gd X Y 1 σ7 [(0, .ref (adr Y 43))] 9 [.int vq6]
  cases h9
  exact g_ireturn hX hR d_M_manyNow_9
noncomputable def M_many_  (σ : Mem) : Option (Int64 × Mem) := (M_manyNow σ).bind (fun q => lt q.1 (fun vq1 => lt q.2 (fun σ2 => some ((vq1.toInt64), σ2))))
set_option maxHeartbeats 4000000 in
set_option maxRecDepth 100000 in
theorem c_M_many_ (l : Launch) (Y : Wx)   (σ : Mem) (o : Int64 × Mem) (hf : M_many_ σ = some o) : Ct l Y 1 y_M_many_ b_M_many_ 1 (some .long) 5 [.ref (adr Y 43)] σ (some (.long o.1)) o.2 := by
  unfold M_many_ at hf
  refine ct_of (by decide) (Nat.le_of_ble_eq_true rfl) rfl (fun X hXl hX hR => ?_)
  subst hXl
  have hX : Fx X Y 1 b_M_many_ 1 R_M 5 := hX
  refine g_aload_n hX d_M_many__0 0 rfl ?_
  obtain ⟨⟨vq1, σ2⟩, h3, h4⟩ := obind hf
  have h4 := lt2 h4
  refine g_callV hX [] [] mv_M_127 (c_M_manyNow X.2.1 Y σ _ h3) (by decide) iw_43 sh_43 rfl rfl rfl (Nat.le_of_ble_eq_true rfl) d_M_many__1 (fun h5 => ?_)
  show Gd X Y 1 σ2 [(0, .ref (adr Y 43))] 4 [.int vq1]
  refine g_i2l hX d_M_many__4 ?_
  cases h4
  exact g_lreturn hX hR d_M_many__5
