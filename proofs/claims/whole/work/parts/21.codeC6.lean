noncomputable def O_must (x1 : Int32) (σ : Mem) : Option (Int32 × Mem) := if (O_isSetOfThings x1 σ) = 0 then some ((-2), σ) else (T_draw 32 10 σ).bind (fun σ4 => (T_reduce 32 x1 σ4).bind (fun q => lt q.1 (fun vq8 => lt q.2 (fun σ9 => ((if vq8 = 0 then some false else (T_rowCount 32 σ9).bind (fun vq18 => (T_rowCount 10 σ9).bind (fun vq22 => if (lg_cmp vq18 vq22) = 0 then some true else some false)) : Option (Bool))).bind (fun bq13 => lt (if bq13 = true then 1 else 0 : Int32) (fun vq33 => some (vq33, σ9)))))))
set_option maxHeartbeats 4000000 in
set_option maxRecDepth 100000 in
theorem c_O_must (l : Launch) (Y : Wx) (x1 : Int32)  (σ : Mem) (o : Int32 × Mem) (hf : O_must x1 σ = some o) : Ct l Y 0 y_O_must b_O_must 2 (some .int) 28 [.ref (adr Y 0), .int x1] σ (some (.int o.1)) o.2 := by
  unfold O_must at hf
  refine ct_of (by decide) (Nat.le_of_ble_eq_true rfl) rfl (fun X hXl hX hR => ?_)
  subst hXl
  have hX : Fx X Y 0 b_O_must 2 R_O 28 := hX
  refine g_aload_n hX d_O_must_0 0 rfl ?_
  refine g_iload_n hX d_O_must_1 1 rfl ?_
  refine g_callV hX [.int x1] [] mv_O_147 (c_O_isSetOfThings X.2.1 Y x1 σ _ rfl) (by decide) iw_0 sh_0 rfl rfl rfl (Nat.le_of_ble_eq_true rfl) d_O_must_2 (fun h1 => ?_)
  show Gd X Y 0 σ [(0, .ref (adr Y 0)), (1, .int x1)] 5 [.int (O_isSetOfThings x1 σ)]
  refine g_if_ne hX 11 d_O_must_5 (by decide) hf (fun h2 => ?_) (fun h3 => ?_)
  · refine g_aload_n hX d_O_must_11 0 rfl ?_
    refine g_getR hX iw_0 sh_0 rfl fl_O_55 d_O_must_12 ?_
    refine g_aload_n hX d_O_must_15 0 rfl ?_
    refine g_getR hX iw_0 sh_0 rfl fl_O_42 d_O_must_16 ?_
    obtain ⟨σ4, h5, h6⟩ := obind h2
    refine g_callV hX [.ref (adr Y 10)] [] mv_O_100 (c_T_draw X.2.1 Y 32 10 isT_32 isT_10 σ _ h5) (by decide) iw_32 sh_32 rfl rfl rfl (Nat.le_of_ble_eq_true rfl) d_O_must_19 (fun h7 => ?_)
    show Gd X Y 0 σ4 [(0, .ref (adr Y 0)), (1, .int x1)] 22 []
    refine g_aload_n hX d_O_must_22 0 rfl ?_
    refine g_getR hX iw_0 sh_0 rfl fl_O_55 d_O_must_23 ?_
    refine g_iload_n hX d_O_must_26 1 rfl ?_
    obtain ⟨⟨vq8, σ9⟩, h10, h11⟩ := obind h6
    have h11 := lt2 h11
    refine g_callV hX [.int x1] [] mv_O_97 (c_T_reduce X.2.1 Y 32 x1 isT_32 σ4 _ h10) (by decide) iw_32 sh_32 rfl rfl rfl (Nat.le_of_ble_eq_true rfl) d_O_must_27 (fun h12 => ?_)
    show Gd X Y 0 σ9 [(0, .ref (adr Y 0)), (1, .int x1)] 30 [.int vq8]
    obtain ⟨bq13, h14, h15⟩ := obind h11
    obtain ⟨vq33, h28, h29⟩ := ltex h15
    have KJ29 : okR (some .boolean) (some (.int vq33)) → Gd X Y 0 σ9 [] 56 [.int vq33] := by
      intro hbvq33
      cases h29
      exact g_ireturn hX hR d_O_must_56
    have Kbq13t : bq13 = true → Gd X Y 0 σ9 [(0, .ref (adr Y 0)), (1, .int x1)] 51 [] := by
      intro h34
      have h31 := (if_pos h34).symm.trans h28
      refine g_iconst hX 1 d_O_must_51 (by decide) ?_
      refine g_goto hX 56 d_O_must_52 (by decide) ?_
      refine g_sub (lv2 := []) [] rfl ?_
      cases h31
      exact KJ29 okB1
    have Kbq13f : ¬ bq13 = true → Gd X Y 0 σ9 [(0, .ref (adr Y 0)), (1, .int x1)] 55 [] := by
      intro h34
      have h32 := (if_neg h34).symm.trans h28
      refine g_iconst hX 0 d_O_must_55 (by decide) ?_
      refine g_sub (lv2 := []) [] rfl ?_
      cases h32
      exact KJ29 okB0
    refine g_if_eq hX 55 d_O_must_30 (by decide) h14 (fun h16 => ?_) (fun h17 => ?_)
    · cases h16
      exact Kbq13f (by decide)
    · refine g_aload_n hX d_O_must_33 0 rfl ?_
      refine g_getR hX iw_0 sh_0 rfl fl_O_55 d_O_must_34 ?_
      obtain ⟨vq18, h19, h20⟩ := obind h17
      refine g_callV hX [] [] mv_O_123 (c_T_rowCount X.2.1 Y 32 isT_32 σ9 _ h19) (by decide) iw_32 sh_32 rfl rfl rfl (Nat.le_of_ble_eq_true rfl) d_O_must_37 (fun h21 => ?_)
      show Gd X Y 0 σ9 [(0, .ref (adr Y 0)), (1, .int x1)] 40 [.long vq18]
      refine g_aload_n hX d_O_must_40 0 rfl ?_
      refine g_getR hX iw_0 sh_0 rfl fl_O_42 d_O_must_41 ?_
      obtain ⟨vq22, h23, h24⟩ := obind h20
      refine g_callV hX [] [.long vq18] mv_O_123 (c_T_rowCount X.2.1 Y 10 isT_10 σ9 _ h23) (by decide) iw_10 sh_10 rfl rfl rfl (Nat.le_of_ble_eq_true rfl) d_O_must_44 (fun h25 => ?_)
      show Gd X Y 0 σ9 [(0, .ref (adr Y 0)), (1, .int x1)] 47 [.long vq22, .long vq18]
      refine g_lcmp hX d_O_must_47 ?_
      refine g_if_ne hX 55 d_O_must_48 (by decide) h24 (fun h26 => ?_) (fun h27 => ?_)
      · cases h26
        exact Kbq13f (by decide)
      · cases h27
        exact Kbq13t rfl
  · refine g_bipush hX (-2) d_O_must_8 (by decide) ?_
    cases h3
    exact g_ireturn hX hR d_O_must_10
noncomputable def O_isThing (x1 : Int32) (σ : Mem) : Int32 := lt (if x1 < 0 then false else if (σ 0 0) ≤ x1 then false else true : Bool) (fun bq1 => lt (if bq1 = true then 1 else 0 : Int32) (fun vq13 => vq13))
set_option maxHeartbeats 4000000 in
set_option maxRecDepth 100000 in
theorem c_O_isThing (l : Launch) (Y : Wx) (x1 : Int32)  (σ : Mem) (o : Int32) (hf : O_isThing x1 σ = o) : Ct l Y 0 y_O_isThing b_O_isThing 2 (some .boolean) 0 [.ref (adr Y 0), .int x1] σ (some (.int o)) σ := by
  unfold O_isThing at hf
  refine ct_of (by decide) (Nat.le_of_ble_eq_true rfl) rfl (fun X hXl hX hR => ?_)
  subst hXl
  have hX : Fx X Y 0 b_O_isThing 2 R_O 0 := hX
  refine g_iload_n hX d_O_isThing_0 1 rfl ?_
  obtain ⟨bq1, h2, h3⟩ := ltex hf
  obtain ⟨vq13, h8, h9⟩ := ltex h3
  have KJ9 : okR (some .boolean) (some (.int vq13)) → Gd X Y 0 σ [] 17 [.int vq13] := by
    intro hbvq13
    cases h9
    exact g_zreturn hX hR hbvq13 d_O_isThing_17
  have Kbq1t : bq1 = true → Gd X Y 0 σ [(0, .ref (adr Y 0)), (1, .int x1)] 12 [] := by
    intro h14
    have h11 := (if_pos h14).symm.trans h8
    refine g_iconst hX 1 d_O_isThing_12 (by decide) ?_
    refine g_goto hX 17 d_O_isThing_13 (by decide) ?_
    refine g_sub (lv2 := []) [] rfl ?_
    cases h11
    exact KJ9 okB1
  have Kbq1f : ¬ bq1 = true → Gd X Y 0 σ [(0, .ref (adr Y 0)), (1, .int x1)] 16 [] := by
    intro h14
    have h12 := (if_neg h14).symm.trans h8
    refine g_iconst hX 0 d_O_isThing_16 (by decide) ?_
    refine g_sub (lv2 := []) [] rfl ?_
    cases h12
    exact KJ9 okB0
  refine g_if_lt hX 16 d_O_isThing_1 (by decide) h2 (fun h4 => ?_) (fun h5 => ?_)
  · cases h4
    exact Kbq1f (by decide)
  · refine g_iload_n hX d_O_isThing_4 1 rfl ?_
    refine g_aload_n hX d_O_isThing_5 0 rfl ?_
    refine g_getI hX iw_0 sh_0 rfl fl_O_9.f d_O_isThing_6 ?_
    refine g_icmp_ge hX 16 d_O_isThing_9 (by decide) h5 (fun h6 => ?_) (fun h7 => ?_)
    · cases h6
      exact Kbq1f (by decide)
    · cases h7
      exact Kbq1t rfl
noncomputable def O_apart (x1 : Int32) (x2 : Int32) (x3 : Int32) (σ : Mem) : Option (Int32) := lt (if (O_isThing x1 σ) = 0 then true else if (O_isThing x2 σ) = 0 then true else if x1 = x2 then true else if x3 < 0 then true else if x3 ≤ 1 then false else true : Bool) (fun bq2 => if bq2 = true then some (-2) else lt (if x3 = 1 then 1 else 0 : Int32) (fun vq23 => (T_between 10 x1 x2 vq23 σ).bind (fun vq24 => some vq24)))
set_option maxHeartbeats 4000000 in
set_option maxRecDepth 100000 in
theorem c_O_apart (l : Launch) (Y : Wx) (x1 : Int32) (x2 : Int32) (x3 : Int32)  (σ : Mem) (o : Int32) (hf : O_apart x1 x2 x3 σ = some o) : Ct l Y 0 y_O_apart b_O_apart 4 (some .int) 3 [.ref (adr Y 0), .int x1, .int x2, .int x3] σ (some (.int o)) σ := by
  unfold O_apart at hf
  refine ct_of (by decide) (Nat.le_of_ble_eq_true rfl) rfl (fun X hXl hX hR => ?_)
  subst hXl
  have hX : Fx X Y 0 b_O_apart 4 R_O 3 := hX
  refine g_aload_n hX d_O_apart_0 0 rfl ?_
  refine g_iload_n hX d_O_apart_1 1 rfl ?_
  refine g_callV hX [.int x1] [] mv_O_150 (c_O_isThing X.2.1 Y x1 σ _ rfl) (by decide) iw_0 sh_0 rfl rfl rfl (Nat.le_of_ble_eq_true rfl) d_O_apart_2 (fun h1 => ?_)
  show Gd X Y 0 σ [(0, .ref (adr Y 0)), (1, .int x1), (2, .int x2), (3, .int x3)] 5 [.int (O_isThing x1 σ)]
  obtain ⟨bq2, h3, h4⟩ := ltex hf
  have Kbq2t : bq2 = true → Gd X Y 0 σ [(0, .ref (adr Y 0)), (1, .int x1), (2, .int x2), (3, .int x3)] 30 [] := by
    intro h28
    have h16 := (if_pos h28).symm.trans h4
    refine g_bipush hX (-2) d_O_apart_30 (by decide) ?_
    cases h16
    exact g_ireturn hX hR d_O_apart_32
  have Kbq2f : ¬ bq2 = true → Gd X Y 0 σ [(0, .ref (adr Y 0)), (1, .int x1), (2, .int x2), (3, .int x3)] 33 [] := by
    intro h28
    have h17 := (if_neg h28).symm.trans h4
    refine g_aload_n hX d_O_apart_33 0 rfl ?_
    refine g_getR hX iw_0 sh_0 rfl fl_O_42 d_O_apart_34 ?_
    refine g_iload_n hX d_O_apart_37 1 rfl ?_
    refine g_iload_n hX d_O_apart_38 2 rfl ?_
    refine g_iload_n hX d_O_apart_39 3 rfl ?_
    refine g_iconst hX 1 d_O_apart_40 (by decide) ?_
    obtain ⟨vq23, h18, h19⟩ := ltex h17
    have KJ19 : okR (some .boolean) (some (.int vq23)) → Gd X Y 0 σ [] 49 [.int vq23, .int x2, .int x1, .ref (adr Y 10)] := by
      intro hbvq23
      obtain ⟨vq24, h25, h26⟩ := obind h19
      refine g_callV hX [.int x1, .int x2, .int vq23] [] mv_O_153 (c_T_between X.2.1 Y 10 x1 x2 vq23 isT_10 σ _ h25) (by decide) iw_10 sh_10 rfl rfl rfl (Nat.le_of_ble_eq_true rfl) d_O_apart_49 (fun h27 => ?_)
      show Gd X Y 0 σ [] 52 [.int vq24]
      cases h26
      exact g_ireturn hX hR d_O_apart_52
    refine g_icmp_ne hX 48 d_O_apart_41 (by decide) h18 (fun h21 => ?_) (fun h22 => ?_)
    · refine g_iconst hX 0 d_O_apart_48 (by decide) ?_
      refine g_sub (lv2 := []) [] rfl ?_
      cases h21
      exact KJ19 okB0
    · refine g_iconst hX 1 d_O_apart_44 (by decide) ?_
      refine g_goto hX 49 d_O_apart_45 (by decide) ?_
      refine g_sub (lv2 := []) [] rfl ?_
      cases h22
      exact KJ19 okB1
  refine g_if_eq hX 30 d_O_apart_5 (by decide) h3 (fun h5 => ?_) (fun h6 => ?_)
  · cases h5
    exact Kbq2t rfl
  · refine g_aload_n hX d_O_apart_8 0 rfl ?_
    refine g_iload_n hX d_O_apart_9 2 rfl ?_
    refine g_callV hX [.int x2] [] mv_O_150 (c_O_isThing X.2.1 Y x2 σ _ rfl) (by decide) iw_0 sh_0 rfl rfl rfl (Nat.le_of_ble_eq_true rfl) d_O_apart_10 (fun h7 => ?_)
    show Gd X Y 0 σ [(0, .ref (adr Y 0)), (1, .int x1), (2, .int x2), (3, .int x3)] 13 [.int (O_isThing x2 σ)]
    refine g_if_eq hX 30 d_O_apart_13 (by decide) h6 (fun h8 => ?_) (fun h9 => ?_)
    · cases h8
      exact Kbq2t rfl
    · refine g_iload_n hX d_O_apart_16 1 rfl ?_
      refine g_iload_n hX d_O_apart_17 2 rfl ?_
      refine g_icmp_eq hX 30 d_O_apart_18 (by decide) h9 (fun h10 => ?_) (fun h11 => ?_)
      · cases h10
        exact Kbq2t rfl
      · refine g_iload_n hX d_O_apart_21 3 rfl ?_
        refine g_if_lt hX 30 d_O_apart_22 (by decide) h11 (fun h12 => ?_) (fun h13 => ?_)
        · cases h12
          exact Kbq2t rfl
        · refine g_iload_n hX d_O_apart_25 3 rfl ?_
          refine g_iconst hX 1 d_O_apart_26 (by decide) ?_
          refine g_icmp_le hX 33 d_O_apart_27 (by decide) h13 (fun h14 => ?_) (fun h15 => ?_)
          · cases h14
            exact Kbq2f (by decide)
          · cases h15
            exact Kbq2t rfl
noncomputable def O_spare_b1  (vq36 : Int32) (σ37 : Mem) : Option ((Int32 × Mem) ⊕ (Mem)) := if (σ37 0 2) ≤ vq36 then some (.inr σ37) else ((if (O_isTaken vq36 σ37) = 0 then some σ37 else (rd σ37 1 vq36).bind (fun vq54 => (T_reduce 32 vq54 σ37).bind (fun q => lt q.1 (fun vq56 => lt q.2 (fun σ57 => some σ57)))) : Option (Mem))).bind (fun σ53 => lt (vq36 + 1) (fun vq61 => some (.inl (vq61, σ53))))
noncomputable def O_spare_b2 (vq5 : Int64) (vq11 : Int32) (vq12 : Int32) (σ13 : Mem) : Option ((Int32 × Int32 × Mem) ⊕ (Int32 × Mem)) := if (σ13 0 2) ≤ vq12 then some (.inr (vq11, σ13)) else ((if (O_isTaken vq12 σ13) = 0 then some (vq11, σ13) else (T_draw 32 21 σ13).bind (fun σ30 => lt (vq12 + 1) (fun vq34 => (lp (fun s => O_spare_b1 s.1 s.2) fuel (vq34, σ30)).bind (fun σ38 => (T_rowCount 32 σ38).bind (fun vq63 => lt (if (lg_cmp vq63 vq5) = 0 then lt (vq11 ||| (1 <<< (vq12 &&& 31))) (fun vq73 => vq73) else vq11 : Int32) (fun vq72 => (rd σ38 1 vq12).bind (fun vq75 => (T_reduce 21 vq75 σ38).bind (fun q => lt q.1 (fun vq77 => lt q.2 (fun σ78 => some (vq72, σ78)))))))))) : Option (Int32 × Mem))).bind (fun q => lt q.1 (fun vq82 => lt q.2 (fun σ83 => lt (vq12 + 1) (fun vq84 => some (.inl (vq82, vq84, σ83))))))
noncomputable def O_spare  (σ : Mem) : Option (Int32 × Mem) := (T_rowCount 10 σ).bind (fun vq1 => lt vq1 (fun vq5 => (T_plant 21 (σ 0 0) σ).bind (fun σ7 => (lp (fun s => O_spare_b2 vq5 s.1 s.2.1 s.2.2) fuel (0, 0, σ7)).bind (fun q => lt q.1 (fun vq14 => lt q.2 (fun σ15 => some (vq14, σ15)))))))
set_option maxHeartbeats 4000000 in
set_option maxRecDepth 100000 in
theorem c_O_spare (l : Launch) (Y : Wx)   (σ : Mem) (o : Int32 × Mem) (hf : O_spare σ = some o) : Ct l Y 0 y_O_spare b_O_spare 6 (some .int) 28 [.ref (adr Y 0)] σ (some (.int o.1)) o.2 := by
  unfold O_spare at hf
  refine ct_of (by decide) (Nat.le_of_ble_eq_true rfl) rfl (fun X hXl hX hR => ?_)
  subst hXl
  have hX : Fx X Y 0 b_O_spare 6 R_O 28 := hX
  refine g_iconst hX 0 d_O_spare_0 (by decide) ?_
  refine g_istore_nV hX [(1, .int 0), (0, .ref (adr Y 0))] d_O_spare_1 (by decide) rfl ?_
  refine g_aload_n hX d_O_spare_2 1 rfl ?_
  refine g_getR hX iw_0 sh_0 rfl fl_O_42 d_O_spare_3 ?_
  obtain ⟨vq1, h2, h3⟩ := obind hf
  refine g_callV hX [] [] mv_O_123 (c_T_rowCount X.2.1 Y 10 isT_10 σ _ h2) (by decide) iw_10 sh_10 rfl rfl rfl (Nat.le_of_ble_eq_true rfl) d_O_spare_6 (fun h4 => ?_)
  show Gd X Y 0 σ [(1, .int 0), (0, .ref (adr Y 0))] 9 [.long vq1]
  refine g_lstore_n hX (fun vq5 => [(2, .long vq5), (1, .int 0), (0, .ref (adr Y 0))]) d_O_spare_9 (by decide) (fun _ => rfl) h3 (fun vq5 h6 => ?_)
  refine g_aload_n hX d_O_spare_10 2 rfl ?_
  refine g_getR hX iw_0 sh_0 rfl fl_O_52 d_O_spare_11 ?_
  refine g_aload_n hX d_O_spare_14 2 rfl ?_
  refine g_getI hX iw_0 sh_0 rfl fl_O_9.f d_O_spare_15 ?_
  obtain ⟨σ7, h8, h9⟩ := obind h6
  refine g_callV hX [.int (σ 0 0)] [] mv_O_94 (c_T_plant X.2.1 Y 21 (σ 0 0) isT_21 σ _ h8) (by decide) iw_21 sh_21 rfl rfl rfl (Nat.le_of_ble_eq_true rfl) d_O_spare_18 (fun h10 => ?_)
  show Gd X Y 0 σ7 [(2, .long vq5), (1, .int 0), (0, .ref (adr Y 0))] 21 []
  refine g_iconst hX 0 d_O_spare_21 (by decide) ?_
  refine g_istoreV hX [(4, .int 0), (2, .long vq5), (1, .int 0), (0, .ref (adr Y 0))] d_O_spare_22 (by decide) rfl ?_
  obtain ⟨⟨vq14, σ15⟩, h19, h20⟩ := obind h9
  have h20 := lt2 h20
  have KX20 : Gd X Y 0 σ15 [(1, .int vq14)] 141 [] := by
    refine g_iload_n hX d_O_spare_141 0 rfl ?_
    cases h20
    exact g_ireturn hX hR d_O_spare_142
  refine g_sub (lv2 := [(0, .ref (adr Y 0)), (1, .int 0), (2, .long vq5), (4, .int 0)]) [3, 2, 1, 0] rfl ?_
  refine g_loop (fun s => O_spare_b2 vq5 s.1 s.2.1 s.2.2) (fun s => Gd X Y 0 s.2.2 [(0, .ref (adr Y 0)), (1, .int s.1), (2, .long vq5), (4, .int s.2.1)] 24 []) (vq14, σ15) ?_ fuel (0, 0, σ7) h19
  intro s y18 h18 h16 h17
  obtain ⟨vq11, vq12, σ13⟩ := s
  have h18 : O_spare_b2 vq5 vq11 vq12 σ13 = some y18 := h18
  unfold O_spare_b2 at h18
  show Gd X Y 0 σ13 [(0, .ref (adr Y 0)), (1, .int vq11), (2, .long vq5), (4, .int vq12)] 24 []
  refine g_iload hX d_O_spare_24 3 rfl ?_
  refine g_aload_n hX d_O_spare_26 0 rfl ?_
  refine g_getI hX iw_0 sh_0 rfl fl_O_17.f d_O_spare_27 ?_
  refine g_icmp_ge hX 141 d_O_spare_30 (by decide) h18 (fun h22 => ?_) (fun h23 => ?_)
  · refine g_sub (lv2 := [(1, .int vq11)]) [1] rfl ?_
    cases h22
    have h21 := h17 (vq11, σ13) rfl
    cases h21
    exact KX20
  · refine g_aload_n hX d_O_spare_33 0 rfl ?_
    refine g_iload hX d_O_spare_34 3 rfl ?_
    refine g_callV hX [.int vq12] [] mv_O_91 (c_O_isTaken X.2.1 Y vq12 σ13 _ rfl) (by decide) iw_0 sh_0 rfl rfl rfl (Nat.le_of_ble_eq_true rfl) d_O_spare_36 (fun h24 => ?_)
    show Gd X Y 0 σ13 [(0, .ref (adr Y 0)), (1, .int vq11), (2, .long vq5), (4, .int vq12)] 39 [.int (O_isTaken vq12 σ13)]
    obtain ⟨⟨vq82, σ83⟩, h25, h26⟩ := obind h23
    have h26 := lt2 h26
    have KJ26 : Gd X Y 0 σ83 [(0, .ref (adr Y 0)), (1, .int vq82), (2, .long vq5), (4, .int vq12)] 135 [] := by
      refine g_iinc hX (fun vq84 => [(4, .int vq84), (0, .ref (adr Y 0)), (1, .int vq82), (2, .long vq5)]) d_O_spare_135 3 rfl rfl (by decide) (fun _ => rfl) h26 (fun vq84 h85 => ?_)
      refine g_goto hX 24 d_O_spare_138 (by decide) ?_
      refine g_sub (lv2 := [(0, .ref (adr Y 0)), (1, .int vq82), (2, .long vq5), (4, .int vq84)]) [1, 2, 3, 0] rfl ?_
      cases h85
      exact h16 (vq82, vq84, σ83) rfl
    refine g_if_ne hX 45 d_O_spare_39 (by decide) h25 (fun h28 => ?_) (fun h29 => ?_)
    · refine g_aload_n hX d_O_spare_45 0 rfl ?_
      refine g_getR hX iw_0 sh_0 rfl fl_O_55 d_O_spare_46 ?_
      refine g_aload_n hX d_O_spare_49 0 rfl ?_
      refine g_getR hX iw_0 sh_0 rfl fl_O_52 d_O_spare_50 ?_
      obtain ⟨σ30, h31, h32⟩ := obind h28
      refine g_callV hX [.ref (adr Y 21)] [] mv_O_100 (c_T_draw X.2.1 Y 32 21 isT_32 isT_21 σ13 _ h31) (by decide) iw_32 sh_32 rfl rfl rfl (Nat.le_of_ble_eq_true rfl) d_O_spare_53 (fun h33 => ?_)
      show Gd X Y 0 σ30 [(0, .ref (adr Y 0)), (1, .int vq11), (2, .long vq5), (4, .int vq12)] 56 []
      refine g_iload hX d_O_spare_56 3 rfl ?_
      refine g_iconst hX 1 d_O_spare_58 (by decide) ?_
      refine g_iadd hX d_O_spare_59 ?_
      refine g_istore hX (fun vq34 => [(5, .int vq34), (0, .ref (adr Y 0)), (1, .int vq11), (2, .long vq5), (4, .int vq12)]) d_O_spare_60 (by decide) (fun _ => rfl) h32 (fun vq34 h35 => ?_)
      obtain ⟨σ38, h42, h43⟩ := obind h35
      have KX43 : Gd X Y 0 σ38 [(0, .ref (adr Y 0)), (1, .int vq11), (2, .long vq5), (4, .int vq12)] 101 [] := by
        refine g_aload_n hX d_O_spare_101 0 rfl ?_
        refine g_getR hX iw_0 sh_0 rfl fl_O_55 d_O_spare_102 ?_
        obtain ⟨vq63, h64, h65⟩ := obind h43
        refine g_callV hX [] [] mv_O_123 (c_T_rowCount X.2.1 Y 32 isT_32 σ38 _ h64) (by decide) iw_32 sh_32 rfl rfl rfl (Nat.le_of_ble_eq_true rfl) d_O_spare_105 (fun h66 => ?_)
        show Gd X Y 0 σ38 [(0, .ref (adr Y 0)), (1, .int vq11), (2, .long vq5), (4, .int vq12)] 108 [.long vq63]
        refine g_lload_n hX d_O_spare_108 2 rfl ?_
        refine g_lcmp hX d_O_spare_109 ?_
        obtain ⟨vq72, h67, h68⟩ := ltex h65
        have KJ68 : Gd X Y 0 σ38 [(0, .ref (adr Y 0)), (1, .int vq72), (2, .long vq5), (4, .int vq12)] 120 [] := by
          refine g_aload_n hX d_O_spare_120 0 rfl ?_
          refine g_getR hX iw_0 sh_0 rfl fl_O_52 d_O_spare_121 ?_
          refine g_aload_n hX d_O_spare_124 0 rfl ?_
          refine g_getR hX iw_0 sh_0 rfl fl_O_13 d_O_spare_125 ?_
          refine g_iload hX d_O_spare_128 3 rfl ?_
          refine g_iaload hX iw_1 sh_1 d_O_spare_130 h68 (fun vq75 h76 => ?_)
          obtain ⟨⟨vq77, σ78⟩, h79, h80⟩ := obind h76
          have h80 := lt2 h80
          refine g_callV hX [.int vq75] [] mv_O_97 (c_T_reduce X.2.1 Y 21 vq75 isT_21 σ38 _ h79) (by decide) iw_21 sh_21 rfl rfl rfl (Nat.le_of_ble_eq_true rfl) d_O_spare_131 (fun h81 => ?_)
          show Gd X Y 0 σ78 [(0, .ref (adr Y 0)), (1, .int vq72), (2, .long vq5), (4, .int vq12)] 134 [.int vq77]
          refine g_pop hX d_O_spare_134 rfl ?_
          refine g_sub (lv2 := [(0, .ref (adr Y 0)), (1, .int vq72), (2, .long vq5), (4, .int vq12)]) [0, 1, 2, 3] rfl ?_
          cases h80
          exact KJ26
        refine g_if_ne hX 120 d_O_spare_110 (by decide) h67 (fun h70 => ?_) (fun h71 => ?_)
        · refine g_sub (lv2 := [(0, .ref (adr Y 0)), (1, .int vq11), (2, .long vq5), (4, .int vq12)]) [0, 1, 2, 3] rfl ?_
          cases h70
          exact KJ68
        · refine g_iload_n hX d_O_spare_113 1 rfl ?_
          refine g_iconst hX 1 d_O_spare_114 (by decide) ?_
          refine g_iload hX d_O_spare_115 3 rfl ?_
          refine g_ishl hX d_O_spare_117 ?_
          refine g_ior hX d_O_spare_118 ?_
          refine g_istore_n hX (fun vq73 => [(1, .int vq73), (0, .ref (adr Y 0)), (2, .long vq5), (4, .int vq12)]) d_O_spare_119 (by decide) (fun _ => rfl) h71 (fun vq73 h74 => ?_)
          refine g_sub (lv2 := [(0, .ref (adr Y 0)), (1, .int vq73), (2, .long vq5), (4, .int vq12)]) [1, 0, 2, 3] rfl ?_
          cases h74
          exact KJ68
      refine g_sub (lv2 := [(0, .ref (adr Y 0)), (1, .int vq11), (2, .long vq5), (4, .int vq12), (5, .int vq34)]) [1, 2, 3, 4, 0] rfl ?_
      refine g_loop (fun s => O_spare_b1 s.1 s.2) (fun s => Gd X Y 0 s.2 [(0, .ref (adr Y 0)), (1, .int vq11), (2, .long vq5), (4, .int vq12), (5, .int s.1)] 62 []) σ38 ?_ fuel (vq34, σ30) h42
      intro s y41 h41 h39 h40
      obtain ⟨vq36, σ37⟩ := s
      have h41 : O_spare_b1 vq36 σ37 = some y41 := h41
      unfold O_spare_b1 at h41
      show Gd X Y 0 σ37 [(0, .ref (adr Y 0)), (1, .int vq11), (2, .long vq5), (4, .int vq12), (5, .int vq36)] 62 []
      refine g_iload hX d_O_spare_62 4 rfl ?_
      refine g_aload_n hX d_O_spare_64 0 rfl ?_
      refine g_getI hX iw_0 sh_0 rfl fl_O_17.f d_O_spare_65 ?_
      refine g_icmp_ge hX 101 d_O_spare_68 (by decide) h41 (fun h45 => ?_) (fun h46 => ?_)
      · refine g_sub (lv2 := [(0, .ref (adr Y 0)), (1, .int vq11), (2, .long vq5), (4, .int vq12)]) [0, 1, 2, 3] rfl ?_
        cases h45
        have h44 := h40 σ37 rfl
        cases h44
        exact KX43
      · refine g_aload_n hX d_O_spare_71 0 rfl ?_
        refine g_iload hX d_O_spare_72 4 rfl ?_
        refine g_callV hX [.int vq36] [] mv_O_91 (c_O_isTaken X.2.1 Y vq36 σ37 _ rfl) (by decide) iw_0 sh_0 rfl rfl rfl (Nat.le_of_ble_eq_true rfl) d_O_spare_74 (fun h47 => ?_)
        show Gd X Y 0 σ37 [(0, .ref (adr Y 0)), (1, .int vq11), (2, .long vq5), (4, .int vq12), (5, .int vq36)] 77 [.int (O_isTaken vq36 σ37)]
        obtain ⟨σ53, h48, h49⟩ := obind h46
        have KJ49 : Gd X Y 0 σ53 [(0, .ref (adr Y 0)), (1, .int vq11), (2, .long vq5), (4, .int vq12), (5, .int vq36)] 95 [] := by
          refine g_iinc hX (fun vq61 => [(5, .int vq61), (0, .ref (adr Y 0)), (1, .int vq11), (2, .long vq5), (4, .int vq12)]) d_O_spare_95 4 rfl rfl (by decide) (fun _ => rfl) h49 (fun vq61 h62 => ?_)
          refine g_goto hX 62 d_O_spare_98 (by decide) ?_
          refine g_sub (lv2 := [(0, .ref (adr Y 0)), (1, .int vq11), (2, .long vq5), (4, .int vq12), (5, .int vq61)]) [1, 2, 3, 4, 0] rfl ?_
          cases h62
          exact h39 (vq61, σ53) rfl
        refine g_if_eq hX 95 d_O_spare_77 (by decide) h48 (fun h51 => ?_) (fun h52 => ?_)
        · refine g_sub (lv2 := [(0, .ref (adr Y 0)), (1, .int vq11), (2, .long vq5), (4, .int vq12), (5, .int vq36)]) [0, 1, 2, 3, 4] rfl ?_
          cases h51
          exact KJ49
        · refine g_aload_n hX d_O_spare_80 0 rfl ?_
          refine g_getR hX iw_0 sh_0 rfl fl_O_55 d_O_spare_81 ?_
          refine g_aload_n hX d_O_spare_84 0 rfl ?_
          refine g_getR hX iw_0 sh_0 rfl fl_O_13 d_O_spare_85 ?_
          refine g_iload hX d_O_spare_88 4 rfl ?_
          refine g_iaload hX iw_1 sh_1 d_O_spare_90 h52 (fun vq54 h55 => ?_)
          obtain ⟨⟨vq56, σ57⟩, h58, h59⟩ := obind h55
          have h59 := lt2 h59
          refine g_callV hX [.int vq54] [] mv_O_97 (c_T_reduce X.2.1 Y 32 vq54 isT_32 σ37 _ h58) (by decide) iw_32 sh_32 rfl rfl rfl (Nat.le_of_ble_eq_true rfl) d_O_spare_91 (fun h60 => ?_)
          show Gd X Y 0 σ57 [(0, .ref (adr Y 0)), (1, .int vq11), (2, .long vq5), (4, .int vq12), (5, .int vq36)] 94 [.int vq56]
          refine g_pop hX d_O_spare_94 rfl ?_
          refine g_sub (lv2 := [(0, .ref (adr Y 0)), (1, .int vq11), (2, .long vq5), (4, .int vq12), (5, .int vq36)]) [0, 1, 2, 3, 4] rfl ?_
          cases h59
          exact KJ49
    · refine g_goto hX 135 d_O_spare_42 (by decide) ?_
      refine g_sub (lv2 := [(0, .ref (adr Y 0)), (1, .int vq11), (2, .long vq5), (4, .int vq12)]) [0, 1, 2, 3] rfl ?_
      cases h29
      exact KJ26
noncomputable def O_type (x1 : Int32) (σ : Mem) : Option (Int32 × Mem) := lt (if x1 < 0 then true else if x1 < 256 then false else true : Bool) (fun bq1 => if bq1 = true then some ((-2), σ) else if (σ 0 5) < 8 then (wr σ 2 (σ 0 5) x1).bind (fun σ12 => lt (mput σ12 0 5 ((σ12 0 5) + 1)) (fun σ14 => some ((σ14 0 5), σ14))) else some ((-4), σ))
set_option maxHeartbeats 4000000 in
set_option maxRecDepth 100000 in
theorem c_O_type (l : Launch) (Y : Wx) (x1 : Int32)  (σ : Mem) (o : Int32 × Mem) (hf : O_type x1 σ = some o) : Ct l Y 0 y_O_type b_O_type 2 (some .int) 0 [.ref (adr Y 0), .int x1] σ (some (.int o.1)) o.2 := by
  unfold O_type at hf
  refine ct_of (by decide) (Nat.le_of_ble_eq_true rfl) rfl (fun X hXl hX hR => ?_)
  subst hXl
  have hX : Fx X Y 0 b_O_type 2 R_O 0 := hX
  refine g_iload_n hX d_O_type_0 1 rfl ?_
  obtain ⟨bq1, h2, h3⟩ := ltex hf
  have Kbq1t : bq1 = true → Gd X Y 0 σ [(0, .ref (adr Y 0)), (1, .int x1)] 11 [] := by
    intro h16
    have h8 := (if_pos h16).symm.trans h3
    refine g_bipush hX (-2) d_O_type_11 (by decide) ?_
    cases h8
    exact g_ireturn hX hR d_O_type_13
  have Kbq1f : ¬ bq1 = true → Gd X Y 0 σ [(0, .ref (adr Y 0)), (1, .int x1)] 14 [] := by
    intro h16
    have h9 := (if_neg h16).symm.trans h3
    refine g_aload_n hX d_O_type_14 0 rfl ?_
    refine g_getI hX iw_0 sh_0 rfl fl_O_26.f d_O_type_15 ?_
    refine g_bipush hX 8 d_O_type_18 (by decide) ?_
    refine g_icmp_lt hX 26 d_O_type_20 (by decide) h9 (fun h10 => ?_) (fun h11 => ?_)
    · refine g_aload_n hX d_O_type_26 0 rfl ?_
      refine g_getR hX iw_0 sh_0 rfl fl_O_23 d_O_type_27 ?_
      refine g_aload_n hX d_O_type_30 0 rfl ?_
      refine g_getI hX iw_0 sh_0 rfl fl_O_26.f d_O_type_31 ?_
      refine g_iload_n hX d_O_type_34 1 rfl ?_
      refine g_iastore hX iw_2 sh_2 d_O_type_35 h10 (fun σ12 h13 => ?_)
      refine g_aload_n hX d_O_type_36 0 rfl ?_
      refine g_dup hX d_O_type_37 rfl ?_
      refine g_getI hX iw_0 sh_0 rfl fl_O_26.f d_O_type_38 ?_
      refine g_iconst hX 1 d_O_type_41 (by decide) ?_
      refine g_iadd hX d_O_type_42 ?_
      refine g_putI hX iw_0 sh_0 rfl fl_O_26 d_O_type_43 h13 (fun σ14 h15 => ?_)
      refine g_aload_n hX d_O_type_46 0 rfl ?_
      refine g_getI hX iw_0 sh_0 rfl fl_O_26.f d_O_type_47 ?_
      cases h15
      exact g_ireturn hX hR d_O_type_50
    · refine g_bipush hX (-4) d_O_type_23 (by decide) ?_
      cases h11
      exact g_ireturn hX hR d_O_type_25
  refine g_if_lt hX 11 d_O_type_1 (by decide) h2 (fun h4 => ?_) (fun h5 => ?_)
  · cases h4
    exact Kbq1t rfl
  · refine g_iload_n hX d_O_type_4 1 rfl ?_
    refine g_sipush hX 256 d_O_type_5 (by decide) ?_
    refine g_icmp_lt hX 14 d_O_type_8 (by decide) h5 (fun h6 => ?_) (fun h7 => ?_)
    · cases h6
      exact Kbq1f (by decide)
    · cases h7
      exact Kbq1t rfl
noncomputable def O_wipe  (σ : Mem) : Int32 × Mem := lt (σ 0 5) (fun vq1 => lt (mput σ 0 5 0) (fun σ3 => (vq1, σ3)))
set_option maxHeartbeats 4000000 in
set_option maxRecDepth 100000 in
theorem c_O_wipe (l : Launch) (Y : Wx)   (σ : Mem) (o : Int32 × Mem) (hf : O_wipe σ = o) : Ct l Y 0 y_O_wipe b_O_wipe 2 (some .int) 0 [.ref (adr Y 0)] σ (some (.int o.1)) o.2 := by
  unfold O_wipe at hf
  refine ct_of (by decide) (Nat.le_of_ble_eq_true rfl) rfl (fun X hXl hX hR => ?_)
  subst hXl
  have hX : Fx X Y 0 b_O_wipe 2 R_O 0 := hX
  refine g_aload_n hX d_O_wipe_0 0 rfl ?_
  refine g_getI hX iw_0 sh_0 rfl fl_O_26.f d_O_wipe_1 ?_
  refine g_istore_n hX (fun vq1 => [(1, .int vq1), (0, .ref (adr Y 0))]) d_O_wipe_4 (by decide) (fun _ => rfl) hf (fun vq1 h2 => ?_)
  refine g_aload_n hX d_O_wipe_5 1 rfl ?_
  refine g_iconst hX 0 d_O_wipe_6 (by decide) ?_
  refine g_putI hX iw_0 sh_0 rfl fl_O_26 d_O_wipe_7 h2 (fun σ3 h4 => ?_)
  refine g_iload_n hX d_O_wipe_10 0 rfl ?_
  cases h4
  exact g_ireturn hX hR d_O_wipe_11
noncomputable def O_undo  (σ : Mem) : Int32 × Mem := if 1 ≤ (σ 0 5) then lt (mput σ 0 5 ((σ 0 5) - 1)) (fun σ3 => ((σ3 0 5), σ3)) else ((-3), σ)
set_option maxHeartbeats 4000000 in
set_option maxRecDepth 100000 in
theorem c_O_undo (l : Launch) (Y : Wx)   (σ : Mem) (o : Int32 × Mem) (hf : O_undo σ = o) : Ct l Y 0 y_O_undo b_O_undo 1 (some .int) 0 [.ref (adr Y 0)] σ (some (.int o.1)) o.2 := by
  unfold O_undo at hf
  refine ct_of (by decide) (Nat.le_of_ble_eq_true rfl) rfl (fun X hXl hX hR => ?_)
  subst hXl
  have hX : Fx X Y 0 b_O_undo 1 R_O 0 := hX
  refine g_aload_n hX d_O_undo_0 0 rfl ?_
  refine g_getI hX iw_0 sh_0 rfl fl_O_26.f d_O_undo_1 ?_
  refine g_iconst hX 1 d_O_undo_4 (by decide) ?_
  refine g_icmp_ge hX 11 d_O_undo_5 (by decide) hf (fun h1 => ?_) (fun h2 => ?_)
  · refine g_aload_n hX d_O_undo_11 0 rfl ?_
    refine g_dup hX d_O_undo_12 rfl ?_
    refine g_getI hX iw_0 sh_0 rfl fl_O_26.f d_O_undo_13 ?_
    refine g_iconst hX 1 d_O_undo_16 (by decide) ?_
    refine g_isub hX d_O_undo_17 ?_
    refine g_putI hX iw_0 sh_0 rfl fl_O_26 d_O_undo_18 h1 (fun σ3 h4 => ?_)
    refine g_aload_n hX d_O_undo_21 0 rfl ?_
    refine g_getI hX iw_0 sh_0 rfl fl_O_26.f d_O_undo_22 ?_
    cases h4
    exact g_ireturn hX hR d_O_undo_25
  · refine g_bipush hX (-3) d_O_undo_8 (by decide) ?_
    cases h2
    exact g_ireturn hX hR d_O_undo_10
noncomputable def O_fault_b1 (σ : Mem) (vq1 : Int32) (vq2 : Int32) : Option ((Int32 × Int32) ⊕ ((Unit) ⊕ (Int32))) := if (σ 0 5) ≤ vq2 then some (.inr (.inl ())) else (rd σ 2 vq2).bind (fun vq11 => lt (vq11 - 97) (fun vq13 => lt (if (O_isThing vq13 σ) = 0 then true else if ((vq1 >>> (vq13 &&& 31)) &&& 1) = 0 then false else true : Bool) (fun bq16 => if bq16 = true then some (.inr (.inr vq2)) else lt (vq1 ||| (1 <<< (vq13 &&& 31))) (fun vq25 => lt (vq2 + 1) (fun vq27 => some (.inl (vq25, vq27)))))))
noncomputable def O_fault  (σ : Mem) : Option (Int32) := (lp (fun s => O_fault_b1 σ s.1 s.2) fuel (0, 0)).bind (fun x => Sum.elim (fun _u => lt (if (σ 0 5) = 0 then true else if (σ 0 5) = (σ 0 0) then true else false : Bool) (fun bq30 => lt (if bq30 = true then (-1) else (σ 0 5) : Int32) (fun vq42 => some vq42))) (fun z => some z) x)
set_option maxHeartbeats 4000000 in
set_option maxRecDepth 100000 in
theorem c_O_fault (l : Launch) (Y : Wx)   (σ : Mem) (o : Int32) (hf : O_fault σ = some o) : Ct l Y 0 y_O_fault b_O_fault 4 (some .int) 1 [.ref (adr Y 0)] σ (some (.int o)) σ := by
  unfold O_fault at hf
  refine ct_of (by decide) (Nat.le_of_ble_eq_true rfl) rfl (fun X hXl hX hR => ?_)
  subst hXl
  have hX : Fx X Y 0 b_O_fault 4 R_O 1 := hX
  refine g_iconst hX 0 d_O_fault_0 (by decide) ?_
  refine g_istore_nV hX [(1, .int 0), (0, .ref (adr Y 0))] d_O_fault_1 (by decide) rfl ?_
  refine g_iconst hX 0 d_O_fault_2 (by decide) ?_
  refine g_istore_nV hX [(2, .int 0), (1, .int 0), (0, .ref (adr Y 0))] d_O_fault_3 (by decide) rfl ?_
  obtain ⟨h6x, h6, h7⟩ := obind hf
  have KX7 : h6x = .inl () → Gd X Y 0 σ [(0, .ref (adr Y 0))] 52 [] := by
    intro h8
    subst h8
    dsimp only [Sum.elim_inl] at h7
    refine g_aload_n hX d_O_fault_52 0 rfl ?_
    refine g_getI hX iw_0 sh_0 rfl fl_O_26.f d_O_fault_53 ?_
    obtain ⟨bq30, h31, h32⟩ := ltex h7
    obtain ⟨vq42, h37, h38⟩ := ltex h32
    have KJ38 : Gd X Y 0 σ [] 78 [.int vq42] := by
      cases h38
      exact g_ireturn hX hR d_O_fault_78
    have Kbq30t : bq30 = true → Gd X Y 0 σ [(0, .ref (adr Y 0))] 70 [] := by
      intro h43
      have h40 := (if_pos h43).symm.trans h37
      refine g_iconst hX (-1) d_O_fault_70 (by decide) ?_
      refine g_goto hX 78 d_O_fault_71 (by decide) ?_
      refine g_sub (lv2 := []) [] rfl ?_
      cases h40
      exact KJ38
    have Kbq30f : ¬ bq30 = true → Gd X Y 0 σ [(0, .ref (adr Y 0))] 74 [] := by
      intro h43
      have h41 := (if_neg h43).symm.trans h37
      refine g_aload_n hX d_O_fault_74 0 rfl ?_
      refine g_getI hX iw_0 sh_0 rfl fl_O_26.f d_O_fault_75 ?_
      refine g_sub (lv2 := []) [] rfl ?_
      cases h41
      exact KJ38
    refine g_if_eq hX 70 d_O_fault_56 (by decide) h31 (fun h33 => ?_) (fun h34 => ?_)
    · cases h33
      exact Kbq30t rfl
    · refine g_aload_n hX d_O_fault_59 0 rfl ?_
      refine g_getI hX iw_0 sh_0 rfl fl_O_26.f d_O_fault_60 ?_
      refine g_aload_n hX d_O_fault_63 0 rfl ?_
      refine g_getI hX iw_0 sh_0 rfl fl_O_9.f d_O_fault_64 ?_
      refine g_icmp_ne hX 74 d_O_fault_67 (by decide) h34 (fun h35 => ?_) (fun h36 => ?_)
      · cases h35
        exact Kbq30f (by decide)
      · cases h36
        exact Kbq30t rfl
  refine g_sub (lv2 := [(0, .ref (adr Y 0)), (1, .int 0), (2, .int 0)]) [2, 1, 0] rfl ?_
  refine g_loop (fun s => O_fault_b1 σ s.1 s.2) (fun s => Gd X Y 0 σ [(0, .ref (adr Y 0)), (1, .int s.1), (2, .int s.2)] 4 []) h6x ?_ fuel (0, 0) h6
  intro s y5 h5 h3 h4
  obtain ⟨vq1, vq2⟩ := s
  have h5 : O_fault_b1 σ vq1 vq2 = some y5 := h5
  unfold O_fault_b1 at h5
  show Gd X Y 0 σ [(0, .ref (adr Y 0)), (1, .int vq1), (2, .int vq2)] 4 []
  refine g_iload_n hX d_O_fault_4 2 rfl ?_
  refine g_aload_n hX d_O_fault_5 0 rfl ?_
  refine g_getI hX iw_0 sh_0 rfl fl_O_26.f d_O_fault_6 ?_
  refine g_icmp_ge hX 52 d_O_fault_9 (by decide) h5 (fun h9 => ?_) (fun h10 => ?_)
  · refine g_sub (lv2 := [(0, .ref (adr Y 0))]) [0] rfl ?_
    cases h9
    exact KX7  (h4 (.inl ()) rfl).symm
  · refine g_aload_n hX d_O_fault_12 0 rfl ?_
    refine g_getR hX iw_0 sh_0 rfl fl_O_23 d_O_fault_13 ?_
    refine g_iload_n hX d_O_fault_16 2 rfl ?_
    refine g_iaload hX iw_2 sh_2 d_O_fault_17 h10 (fun vq11 h12 => ?_)
    refine g_bipush hX 97 d_O_fault_18 (by decide) ?_
    refine g_isub hX d_O_fault_20 ?_
    refine g_istore_n hX (fun vq13 => [(3, .int vq13), (0, .ref (adr Y 0)), (1, .int vq1), (2, .int vq2)]) d_O_fault_21 (by decide) (fun _ => rfl) h12 (fun vq13 h14 => ?_)
    refine g_aload_n hX d_O_fault_22 1 rfl ?_
    refine g_iload_n hX d_O_fault_23 0 rfl ?_
    refine g_callV hX [.int vq13] [] mv_O_150 (c_O_isThing X.2.1 Y vq13 σ _ rfl) (by decide) iw_0 sh_0 rfl rfl rfl (Nat.le_of_ble_eq_true rfl) d_O_fault_24 (fun h15 => ?_)
    show Gd X Y 0 σ [(3, .int vq13), (0, .ref (adr Y 0)), (1, .int vq1), (2, .int vq2)] 27 [.int (O_isThing vq13 σ)]
    obtain ⟨bq16, h17, h18⟩ := ltex h14
    have Kbq16t : bq16 = true → Gd X Y 0 σ [(3, .int vq13), (0, .ref (adr Y 0)), (1, .int vq1), (2, .int vq2)] 38 [] := by
      intro h29
      have h23 := (if_pos h29).symm.trans h18
      refine g_iload_n hX d_O_fault_38 3 rfl ?_
      cases h23
      have h8 := h4 (.inr vq2) rfl
      subst h8
      dsimp only [Sum.elim_inr] at h7
      cases h7
      exact g_ireturn hX hR d_O_fault_39
    have Kbq16f : ¬ bq16 = true → Gd X Y 0 σ [(3, .int vq13), (0, .ref (adr Y 0)), (1, .int vq1), (2, .int vq2)] 40 [] := by
      intro h29
      have h24 := (if_neg h29).symm.trans h18
      refine g_iload_n hX d_O_fault_40 2 rfl ?_
      refine g_iconst hX 1 d_O_fault_41 (by decide) ?_
      refine g_iload_n hX d_O_fault_42 0 rfl ?_
      refine g_ishl hX d_O_fault_43 ?_
      refine g_ior hX d_O_fault_44 ?_
      refine g_istore_n hX (fun vq25 => [(1, .int vq25), (3, .int vq13), (0, .ref (adr Y 0)), (2, .int vq2)]) d_O_fault_45 (by decide) (fun _ => rfl) h24 (fun vq25 h26 => ?_)
      refine g_iinc hX (fun vq27 => [(2, .int vq27), (1, .int vq25), (3, .int vq13), (0, .ref (adr Y 0))]) d_O_fault_46 3 rfl rfl (by decide) (fun _ => rfl) h26 (fun vq27 h28 => ?_)
      refine g_goto hX 4 d_O_fault_49 (by decide) ?_
      refine g_sub (lv2 := [(0, .ref (adr Y 0)), (1, .int vq25), (2, .int vq27)]) [3, 1, 0] rfl ?_
      cases h28
      exact h3 (vq25, vq27) rfl
    refine g_if_eq hX 38 d_O_fault_27 (by decide) h17 (fun h19 => ?_) (fun h20 => ?_)
    · cases h19
      exact Kbq16t rfl
    · refine g_iload_n hX d_O_fault_30 2 rfl ?_
      refine g_iload_n hX d_O_fault_31 0 rfl ?_
      refine g_ishr hX d_O_fault_32 ?_
      refine g_iconst hX 1 d_O_fault_33 (by decide) ?_
      refine g_iand hX d_O_fault_34 ?_
      refine g_if_eq hX 40 d_O_fault_35 (by decide) h20 (fun h21 => ?_) (fun h22 => ?_)
      · cases h21
        exact Kbq16f (by decide)
      · cases h22
        exact Kbq16t rfl
noncomputable def O_findPlaces_b1  (vq1 : Int32) (σ2 : Mem) : Option ((Int32 × Mem) ⊕ (Mem)) := if (σ2 0 5) ≤ vq1 then some (.inr σ2) else (rd σ2 2 vq1).bind (fun vq12 => lt (vq12 - 97) (fun vq14 => ((if (O_isThing vq14 σ2) = 0 then some σ2 else (wr σ2 5 vq14 vq1).bind (fun σ23 => some σ23) : Option (Mem))).bind (fun σ22 => lt (vq1 + 1) (fun vq25 => some (.inl (vq25, σ22))))))
noncomputable def O_findPlaces  (σ : Mem) : Option (Mem) := (lp (fun s => O_findPlaces_b1 s.1 s.2) fuel (0, σ)).bind (fun σ3 => some σ3)
set_option maxHeartbeats 4000000 in
set_option maxRecDepth 100000 in
theorem c_O_findPlaces (l : Launch) (Y : Wx)   (σ : Mem) (o : Mem) (hf : O_findPlaces σ = some o) : Ct l Y 0 y_O_findPlaces b_O_findPlaces 3 none 1 [.ref (adr Y 0)] σ none o := by
  unfold O_findPlaces at hf
  refine ct_of (by decide) (Nat.le_of_ble_eq_true rfl) rfl (fun X hXl hX hR => ?_)
  subst hXl
  have hX : Fx X Y 0 b_O_findPlaces 3 R_O 1 := hX
  refine g_iconst hX 0 d_O_findPlaces_0 (by decide) ?_
  refine g_istore_nV hX [(1, .int 0), (0, .ref (adr Y 0))] d_O_findPlaces_1 (by decide) rfl ?_
  obtain ⟨σ3, h7, h8⟩ := obind hf
  have KX8 : Gd X Y 0 σ3 [] 41 [] := by
    cases h8
    exact g_return hX hR d_O_findPlaces_41
  refine g_sub (lv2 := [(0, .ref (adr Y 0)), (1, .int 0)]) [1, 0] rfl ?_
  refine g_loop (fun s => O_findPlaces_b1 s.1 s.2) (fun s => Gd X Y 0 s.2 [(0, .ref (adr Y 0)), (1, .int s.1)] 2 []) σ3 ?_ fuel (0, σ) h7
  intro s y6 h6 h4 h5
  obtain ⟨vq1, σ2⟩ := s
  have h6 : O_findPlaces_b1 vq1 σ2 = some y6 := h6
  unfold O_findPlaces_b1 at h6
  show Gd X Y 0 σ2 [(0, .ref (adr Y 0)), (1, .int vq1)] 2 []
  refine g_iload_n hX d_O_findPlaces_2 1 rfl ?_
  refine g_aload_n hX d_O_findPlaces_3 0 rfl ?_
  refine g_getI hX iw_0 sh_0 rfl fl_O_26.f d_O_findPlaces_4 ?_
  refine g_icmp_ge hX 41 d_O_findPlaces_7 (by decide) h6 (fun h10 => ?_) (fun h11 => ?_)
  · refine g_sub (lv2 := []) [] rfl ?_
    cases h10
    have h9 := h5 σ2 rfl
    cases h9
    exact KX8
  · refine g_aload_n hX d_O_findPlaces_10 0 rfl ?_
    refine g_getR hX iw_0 sh_0 rfl fl_O_23 d_O_findPlaces_11 ?_
    refine g_iload_n hX d_O_findPlaces_14 1 rfl ?_
    refine g_iaload hX iw_2 sh_2 d_O_findPlaces_15 h11 (fun vq12 h13 => ?_)
    refine g_bipush hX 97 d_O_findPlaces_16 (by decide) ?_
    refine g_isub hX d_O_findPlaces_18 ?_
    refine g_istore_n hX (fun vq14 => [(2, .int vq14), (0, .ref (adr Y 0)), (1, .int vq1)]) d_O_findPlaces_19 (by decide) (fun _ => rfl) h13 (fun vq14 h15 => ?_)
    refine g_aload_n hX d_O_findPlaces_20 1 rfl ?_
    refine g_iload_n hX d_O_findPlaces_21 0 rfl ?_
    refine g_callV hX [.int vq14] [] mv_O_150 (c_O_isThing X.2.1 Y vq14 σ2 _ rfl) (by decide) iw_0 sh_0 rfl rfl rfl (Nat.le_of_ble_eq_true rfl) d_O_findPlaces_22 (fun h16 => ?_)
    show Gd X Y 0 σ2 [(2, .int vq14), (0, .ref (adr Y 0)), (1, .int vq1)] 25 [.int (O_isThing vq14 σ2)]
    obtain ⟨σ22, h17, h18⟩ := obind h15
    have KJ18 : Gd X Y 0 σ22 [(0, .ref (adr Y 0)), (1, .int vq1)] 35 [] := by
      refine g_iinc hX (fun vq25 => [(1, .int vq25), (0, .ref (adr Y 0))]) d_O_findPlaces_35 1 rfl rfl (by decide) (fun _ => rfl) h18 (fun vq25 h26 => ?_)
      refine g_goto hX 2 d_O_findPlaces_38 (by decide) ?_
      refine g_sub (lv2 := [(0, .ref (adr Y 0)), (1, .int vq25)]) [1, 0] rfl ?_
      cases h26
      exact h4 (vq25, σ22) rfl
    refine g_if_eq hX 35 d_O_findPlaces_25 (by decide) h17 (fun h20 => ?_) (fun h21 => ?_)
    · refine g_sub (lv2 := [(0, .ref (adr Y 0)), (1, .int vq1)]) [1, 2] rfl ?_
      cases h20
      exact KJ18
    · refine g_aload_n hX d_O_findPlaces_28 1 rfl ?_
      refine g_getR hX iw_0 sh_0 rfl fl_O_61 d_O_findPlaces_29 ?_
      refine g_iload_n hX d_O_findPlaces_32 0 rfl ?_
      refine g_iload_n hX d_O_findPlaces_33 2 rfl ?_
      refine g_iastore hX iw_5 sh_5 d_O_findPlaces_34 h21 (fun σ23 h24 => ?_)
      refine g_sub (lv2 := [(0, .ref (adr Y 0)), (1, .int vq1)]) [1, 2] rfl ?_
      cases h24
      exact KJ18
noncomputable def O_isSideBySide_b1 (x1 : Int32) (σ : Mem) (vq1 : Int32) (vq2 : Int32) (vq3 : Int32) (vq4 : Int32) : Option ((Int32 × Int32 × Int32 × Int32) ⊕ (Int32 × Int32 × Int32)) := if (σ 0 0) ≤ vq4 then some (.inr (vq1, vq2, vq3)) else ((if ((x1 >>> (vq4 &&& 31)) &&& 1) = 0 then some (vq1, vq2, vq3) else (rd σ 5 vq4).bind (fun vq24 => lt (if vq24 < vq1 then vq24 else vq1) (fun vq26 => (rd σ 5 vq4).bind (fun vq28 => lt (if vq2 < vq28 then vq28 else vq2) (fun vq30 => lt (vq3 + 1) (fun vq32 => some (vq26, vq30, vq32)))))) : Option (Int32 × Int32 × Int32))).bind (fun q => lt q.1 (fun vq21 => lt q.2.1 (fun vq22 => lt q.2.2 (fun vq23 => lt (vq4 + 1) (fun vq34 => some (.inl (vq21, vq22, vq23, vq34)))))))
noncomputable def O_isSideBySide (x1 : Int32) (σ : Mem) : Option (Int32) := (lp (fun s => O_isSideBySide_b1 x1 σ s.1 s.2.1 s.2.2.1 s.2.2.2) fuel (8, (-1), 0, 0)).bind (fun q => lt q.1 (fun vq5 => lt q.2.1 (fun vq6 => lt q.2.2 (fun vq7 => lt (if vq7 < 2 then true else if ((vq6 - vq5) + 1) = vq7 then true else false : Bool) (fun bq36 => lt (if bq36 = true then 1 else 0 : Int32) (fun vq48 => some vq48))))))
set_option maxHeartbeats 4000000 in
set_option maxRecDepth 100000 in
theorem c_O_isSideBySide (l : Launch) (Y : Wx) (x1 : Int32)  (σ : Mem) (o : Int32) (hf : O_isSideBySide x1 σ = some o) : Ct l Y 0 y_O_isSideBySide b_O_isSideBySide 6 (some .boolean) 1 [.ref (adr Y 0), .int x1] σ (some (.int o)) σ := by
  unfold O_isSideBySide at hf
  refine ct_of (by decide) (Nat.le_of_ble_eq_true rfl) rfl (fun X hXl hX hR => ?_)
  subst hXl
  have hX : Fx X Y 0 b_O_isSideBySide 6 R_O 1 := hX
  refine g_bipush hX 8 d_O_isSideBySide_0 (by decide) ?_
  refine g_istore_nV hX [(2, .int 8), (0, .ref (adr Y 0)), (1, .int x1)] d_O_isSideBySide_2 (by decide) rfl ?_
  refine g_iconst hX (-1) d_O_isSideBySide_3 (by decide) ?_
  refine g_istore_nV hX [(3, .int (-1)), (2, .int 8), (0, .ref (adr Y 0)), (1, .int x1)] d_O_isSideBySide_4 (by decide) rfl ?_
  refine g_iconst hX 0 d_O_isSideBySide_5 (by decide) ?_
  refine g_istoreV hX [(4, .int 0), (3, .int (-1)), (2, .int 8), (0, .ref (adr Y 0)), (1, .int x1)] d_O_isSideBySide_6 (by decide) rfl ?_
  refine g_iconst hX 0 d_O_isSideBySide_8 (by decide) ?_
  refine g_istoreV hX [(5, .int 0), (4, .int 0), (3, .int (-1)), (2, .int 8), (0, .ref (adr Y 0)), (1, .int x1)] d_O_isSideBySide_9 (by decide) rfl ?_
  obtain ⟨⟨vq5, vq6, vq7⟩, h11, h12⟩ := obind hf
  have h12 := lt3 h12
  have KX12 : Gd X Y 0 σ [(2, .int vq5), (3, .int vq6), (4, .int vq7)] 62 [] := by
    refine g_iload hX d_O_isSideBySide_62 2 rfl ?_
    refine g_iconst hX 2 d_O_isSideBySide_64 (by decide) ?_
    obtain ⟨bq36, h37, h38⟩ := ltex h12
    obtain ⟨vq48, h43, h44⟩ := ltex h38
    have KJ44 : okR (some .boolean) (some (.int vq48)) → Gd X Y 0 σ [] 83 [.int vq48] := by
      intro hbvq48
      cases h44
      exact g_zreturn hX hR hbvq48 d_O_isSideBySide_83
    have Kbq36t : bq36 = true → Gd X Y 0 σ [(2, .int vq5), (3, .int vq6), (4, .int vq7)] 78 [] := by
      intro h49
      have h46 := (if_pos h49).symm.trans h43
      refine g_iconst hX 1 d_O_isSideBySide_78 (by decide) ?_
      refine g_goto hX 83 d_O_isSideBySide_79 (by decide) ?_
      refine g_sub (lv2 := []) [] rfl ?_
      cases h46
      exact KJ44 okB1
    have Kbq36f : ¬ bq36 = true → Gd X Y 0 σ [(2, .int vq5), (3, .int vq6), (4, .int vq7)] 82 [] := by
      intro h49
      have h47 := (if_neg h49).symm.trans h43
      refine g_iconst hX 0 d_O_isSideBySide_82 (by decide) ?_
      refine g_sub (lv2 := []) [] rfl ?_
      cases h47
      exact KJ44 okB0
    refine g_icmp_lt hX 78 d_O_isSideBySide_65 (by decide) h37 (fun h39 => ?_) (fun h40 => ?_)
    · cases h39
      exact Kbq36t rfl
    · refine g_iload_n hX d_O_isSideBySide_68 1 rfl ?_
      refine g_iload_n hX d_O_isSideBySide_69 0 rfl ?_
      refine g_isub hX d_O_isSideBySide_70 ?_
      refine g_iconst hX 1 d_O_isSideBySide_71 (by decide) ?_
      refine g_iadd hX d_O_isSideBySide_72 ?_
      refine g_iload hX d_O_isSideBySide_73 2 rfl ?_
      refine g_icmp_ne hX 82 d_O_isSideBySide_75 (by decide) h40 (fun h41 => ?_) (fun h42 => ?_)
      · cases h41
        exact Kbq36f (by decide)
      · cases h42
        exact Kbq36t rfl
  refine g_sub (lv2 := [(0, .ref (adr Y 0)), (1, .int x1), (2, .int 8), (3, .int (-1)), (4, .int 0), (5, .int 0)]) [4, 5, 3, 2, 1, 0] rfl ?_
  refine g_loop (fun s => O_isSideBySide_b1 x1 σ s.1 s.2.1 s.2.2.1 s.2.2.2) (fun s => Gd X Y 0 σ [(0, .ref (adr Y 0)), (1, .int x1), (2, .int s.1), (3, .int s.2.1), (4, .int s.2.2.1), (5, .int s.2.2.2)] 11 []) (vq5, vq6, vq7) ?_ fuel (8, (-1), 0, 0) h11
  intro s y10 h10 h8 h9
  obtain ⟨vq1, vq2, vq3, vq4⟩ := s
  have h10 : O_isSideBySide_b1 x1 σ vq1 vq2 vq3 vq4 = some y10 := h10
  unfold O_isSideBySide_b1 at h10
  show Gd X Y 0 σ [(0, .ref (adr Y 0)), (1, .int x1), (2, .int vq1), (3, .int vq2), (4, .int vq3), (5, .int vq4)] 11 []
  refine g_iload hX d_O_isSideBySide_11 5 rfl ?_
  refine g_aload_n hX d_O_isSideBySide_13 0 rfl ?_
  refine g_getI hX iw_0 sh_0 rfl fl_O_9.f d_O_isSideBySide_14 ?_
  refine g_icmp_ge hX 62 d_O_isSideBySide_17 (by decide) h10 (fun h14 => ?_) (fun h15 => ?_)
  · refine g_sub (lv2 := [(2, .int vq1), (3, .int vq2), (4, .int vq3)]) [2, 3, 4] rfl ?_
    cases h14
    have h13 := h9 (vq1, vq2, vq3) rfl
    cases h13
    exact KX12
  · refine g_iload_n hX d_O_isSideBySide_20 1 rfl ?_
    refine g_iload hX d_O_isSideBySide_21 5 rfl ?_
    refine g_ishr hX d_O_isSideBySide_23 ?_
    refine g_iconst hX 1 d_O_isSideBySide_24 (by decide) ?_
    refine g_iand hX d_O_isSideBySide_25 ?_
    obtain ⟨⟨vq21, vq22, vq23⟩, h16, h17⟩ := obind h15
    have h17 := lt3 h17
    have KJ17 : Gd X Y 0 σ [(0, .ref (adr Y 0)), (1, .int x1), (2, .int vq21), (3, .int vq22), (4, .int vq23), (5, .int vq4)] 56 [] := by
      refine g_iinc hX (fun vq34 => [(5, .int vq34), (0, .ref (adr Y 0)), (1, .int x1), (2, .int vq21), (3, .int vq22), (4, .int vq23)]) d_O_isSideBySide_56 5 rfl rfl (by decide) (fun _ => rfl) h17 (fun vq34 h35 => ?_)
      refine g_goto hX 11 d_O_isSideBySide_59 (by decide) ?_
      refine g_sub (lv2 := [(0, .ref (adr Y 0)), (1, .int x1), (2, .int vq21), (3, .int vq22), (4, .int vq23), (5, .int vq34)]) [1, 2, 3, 4, 5, 0] rfl ?_
      cases h35
      exact h8 (vq21, vq22, vq23, vq34) rfl
    refine g_if_eq hX 56 d_O_isSideBySide_26 (by decide) h16 (fun h19 => ?_) (fun h20 => ?_)
    · refine g_sub (lv2 := [(0, .ref (adr Y 0)), (1, .int x1), (2, .int vq1), (3, .int vq2), (4, .int vq3), (5, .int vq4)]) [0, 1, 2, 3, 4, 5] rfl ?_
      cases h19
      exact KJ17
    · refine g_iload_n hX d_O_isSideBySide_29 2 rfl ?_
      refine g_aload_n hX d_O_isSideBySide_30 0 rfl ?_
      refine g_getR hX iw_0 sh_0 rfl fl_O_61 d_O_isSideBySide_31 ?_
      refine g_iload hX d_O_isSideBySide_34 5 rfl ?_
      refine g_iaload hX iw_5 sh_5 d_O_isSideBySide_36 h20 (fun vq24 h25 => ?_)
      refine g_min hX (by decide) q_335 q_299 q_6 q_300 (Nat.le_of_ble_eq_true rfl) d_O_isSideBySide_37 ?_
      refine g_istore_n hX (fun vq26 => [(2, .int vq26), (0, .ref (adr Y 0)), (1, .int x1), (3, .int vq2), (4, .int vq3), (5, .int vq4)]) d_O_isSideBySide_40 (by decide) (fun _ => rfl) h25 (fun vq26 h27 => ?_)
      refine g_iload_n hX d_O_isSideBySide_41 3 rfl ?_
      refine g_aload_n hX d_O_isSideBySide_42 1 rfl ?_
      refine g_getR hX iw_0 sh_0 rfl fl_O_61 d_O_isSideBySide_43 ?_
      refine g_iload hX d_O_isSideBySide_46 5 rfl ?_
      refine g_iaload hX iw_5 sh_5 d_O_isSideBySide_48 h27 (fun vq28 h29 => ?_)
      refine g_max hX (by decide) q_336 q_265 q_6 q_266 (Nat.le_of_ble_eq_true rfl) d_O_isSideBySide_49 ?_
      refine g_istore_n hX (fun vq30 => [(3, .int vq30), (2, .int vq26), (0, .ref (adr Y 0)), (1, .int x1), (4, .int vq3), (5, .int vq4)]) d_O_isSideBySide_52 (by decide) (fun _ => rfl) h29 (fun vq30 h31 => ?_)
      refine g_iinc hX (fun vq32 => [(4, .int vq32), (3, .int vq30), (2, .int vq26), (0, .ref (adr Y 0)), (1, .int x1), (5, .int vq4)]) d_O_isSideBySide_53 4 rfl rfl (by decide) (fun _ => rfl) h31 (fun vq32 h33 => ?_)
      refine g_sub (lv2 := [(0, .ref (adr Y 0)), (1, .int x1), (2, .int vq26), (3, .int vq30), (4, .int vq32), (5, .int vq4)]) [3, 4, 2, 1, 0, 5] rfl ?_
      cases h33
      exact KJ17
noncomputable def O_misses_b1 (σ14 : Mem) (vq18 : Int32) (vq19 : Int32) : Option ((Int32 × Int32) ⊕ (Int32)) := if (σ14 0 2) ≤ vq19 then some (.inr vq18) else (rd σ14 1 vq19).bind (fun vq29 => (O_isSideBySide vq29 σ14).bind (fun vq31 => lt (if vq31 = 0 then lt (vq18 ||| (1 <<< (vq19 &&& 31))) (fun vq41 => vq41) else vq18 : Int32) (fun vq40 => lt (vq19 + 1) (fun vq43 => some (.inl (vq40, vq43))))))
noncomputable def O_misses  (σ : Mem) : Option (Int32 × Mem) := ((if (σ 0 5) = 0 then some true else (O_fault σ).bind (fun vq6 => if vq6 = (-1) then some false else some true) : Option (Bool))).bind (fun bq1 => if bq1 = true then some ((-3), σ) else (O_findPlaces σ).bind (fun σ14 => (lp (fun s => O_misses_b1 σ14 s.1 s.2) fuel (0, 0)).bind (fun vq20 => some (vq20, σ14))))
set_option maxHeartbeats 4000000 in
set_option maxRecDepth 100000 in
theorem c_O_misses (l : Launch) (Y : Wx)   (σ : Mem) (o : Int32 × Mem) (hf : O_misses σ = some o) : Ct l Y 0 y_O_misses b_O_misses 3 (some .int) 2 [.ref (adr Y 0)] σ (some (.int o.1)) o.2 := by
  unfold O_misses at hf
  refine ct_of (by decide) (Nat.le_of_ble_eq_true rfl) rfl (fun X hXl hX hR => ?_)
  subst hXl
  have hX : Fx X Y 0 b_O_misses 3 R_O 2 := hX
  refine g_aload_n hX d_O_misses_0 0 rfl ?_
  refine g_getI hX iw_0 sh_0 rfl fl_O_26.f d_O_misses_1 ?_
  obtain ⟨bq1, h2, h3⟩ := obind hf
  have Kbq1t : bq1 = true → Gd X Y 0 σ [(0, .ref (adr Y 0))] 15 [] := by
    intro h45
    have h12 := (if_pos h45).symm.trans h3
    refine g_bipush hX (-3) d_O_misses_15 (by decide) ?_
    cases h12
    exact g_ireturn hX hR d_O_misses_17
  have Kbq1f : ¬ bq1 = true → Gd X Y 0 σ [(0, .ref (adr Y 0))] 18 [] := by
    intro h45
    have h13 := (if_neg h45).symm.trans h3
    refine g_aload_n hX d_O_misses_18 0 rfl ?_
    obtain ⟨σ14, h15, h16⟩ := obind h13
    refine g_callV hX [] [] mv_O_160 (c_O_findPlaces X.2.1 Y σ _ h15) (by decide) iw_0 sh_0 rfl rfl rfl (Nat.le_of_ble_eq_true rfl) d_O_misses_19 (fun h17 => ?_)
    show Gd X Y 0 σ14 [(0, .ref (adr Y 0))] 22 []
    refine g_iconst hX 0 d_O_misses_22 (by decide) ?_
    refine g_istore_nV hX [(1, .int 0), (0, .ref (adr Y 0))] d_O_misses_23 (by decide) rfl ?_
    refine g_iconst hX 0 d_O_misses_24 (by decide) ?_
    refine g_istore_nV hX [(2, .int 0), (1, .int 0), (0, .ref (adr Y 0))] d_O_misses_25 (by decide) rfl ?_
    obtain ⟨vq20, h24, h25⟩ := obind h16
    have KX25 : Gd X Y 0 σ14 [(1, .int vq20)] 59 [] := by
      refine g_iload_n hX d_O_misses_59 0 rfl ?_
      cases h25
      exact g_ireturn hX hR d_O_misses_60
    refine g_sub (lv2 := [(0, .ref (adr Y 0)), (1, .int 0), (2, .int 0)]) [2, 1, 0] rfl ?_
    refine g_loop (fun s => O_misses_b1 σ14 s.1 s.2) (fun s => Gd X Y 0 σ14 [(0, .ref (adr Y 0)), (1, .int s.1), (2, .int s.2)] 26 []) vq20 ?_ fuel (0, 0) h24
    intro s y23 h23 h21 h22
    obtain ⟨vq18, vq19⟩ := s
    have h23 : O_misses_b1 σ14 vq18 vq19 = some y23 := h23
    unfold O_misses_b1 at h23
    show Gd X Y 0 σ14 [(0, .ref (adr Y 0)), (1, .int vq18), (2, .int vq19)] 26 []
    refine g_iload_n hX d_O_misses_26 2 rfl ?_
    refine g_aload_n hX d_O_misses_27 0 rfl ?_
    refine g_getI hX iw_0 sh_0 rfl fl_O_17.f d_O_misses_28 ?_
    refine g_icmp_ge hX 59 d_O_misses_31 (by decide) h23 (fun h27 => ?_) (fun h28 => ?_)
    · refine g_sub (lv2 := [(1, .int vq18)]) [1] rfl ?_
      cases h27
      have h26 := h22 vq18 rfl
      cases h26
      exact KX25
    · refine g_aload_n hX d_O_misses_34 0 rfl ?_
      refine g_aload_n hX d_O_misses_35 0 rfl ?_
      refine g_getR hX iw_0 sh_0 rfl fl_O_13 d_O_misses_36 ?_
      refine g_iload_n hX d_O_misses_39 2 rfl ?_
      refine g_iaload hX iw_1 sh_1 d_O_misses_40 h28 (fun vq29 h30 => ?_)
      obtain ⟨vq31, h32, h33⟩ := obind h30
      refine g_callV hX [.int vq29] [] mv_O_163 (c_O_isSideBySide X.2.1 Y vq29 σ14 _ h32) (by decide) iw_0 sh_0 rfl rfl rfl (Nat.le_of_ble_eq_true rfl) d_O_misses_41 (fun h34 => ?_)
      show Gd X Y 0 σ14 [(0, .ref (adr Y 0)), (1, .int vq18), (2, .int vq19)] 44 [.int vq31]
      obtain ⟨vq40, h35, h36⟩ := ltex h33
      have KJ36 : Gd X Y 0 σ14 [(0, .ref (adr Y 0)), (1, .int vq40), (2, .int vq19)] 53 [] := by
        refine g_iinc hX (fun vq43 => [(2, .int vq43), (0, .ref (adr Y 0)), (1, .int vq40)]) d_O_misses_53 2 rfl rfl (by decide) (fun _ => rfl) h36 (fun vq43 h44 => ?_)
        refine g_goto hX 26 d_O_misses_56 (by decide) ?_
        refine g_sub (lv2 := [(0, .ref (adr Y 0)), (1, .int vq40), (2, .int vq43)]) [1, 2, 0] rfl ?_
        cases h44
        exact h21 (vq40, vq43) rfl
      refine g_if_ne hX 53 d_O_misses_44 (by decide) h35 (fun h38 => ?_) (fun h39 => ?_)
      · refine g_sub (lv2 := [(0, .ref (adr Y 0)), (1, .int vq18), (2, .int vq19)]) [0, 1, 2] rfl ?_
        cases h38
        exact KJ36
      · refine g_iload_n hX d_O_misses_47 1 rfl ?_
        refine g_iconst hX 1 d_O_misses_48 (by decide) ?_
        refine g_iload_n hX d_O_misses_49 2 rfl ?_
        refine g_ishl hX d_O_misses_50 ?_
        refine g_ior hX d_O_misses_51 ?_
        refine g_istore_n hX (fun vq41 => [(1, .int vq41), (0, .ref (adr Y 0)), (2, .int vq19)]) d_O_misses_52 (by decide) (fun _ => rfl) h39 (fun vq41 h42 => ?_)
        refine g_sub (lv2 := [(0, .ref (adr Y 0)), (1, .int vq41), (2, .int vq19)]) [1, 0, 2] rfl ?_
        cases h42
        exact KJ36
  refine g_if_eq hX 15 d_O_misses_4 (by decide) h2 (fun h4 => ?_) (fun h5 => ?_)
  · cases h4
    exact Kbq1t rfl
  · refine g_aload_n hX d_O_misses_7 0 rfl ?_
    obtain ⟨vq6, h7, h8⟩ := obind h5
    refine g_callV hX [] [] mv_O_157 (c_O_fault X.2.1 Y σ _ h7) (by decide) iw_0 sh_0 rfl rfl rfl (Nat.le_of_ble_eq_true rfl) d_O_misses_8 (fun h9 => ?_)
    show Gd X Y 0 σ [(0, .ref (adr Y 0))] 11 [.int vq6]
    refine g_iconst hX (-1) d_O_misses_11 (by decide) ?_
    refine g_icmp_eq hX 18 d_O_misses_12 (by decide) h8 (fun h10 => ?_) (fun h11 => ?_)
    · cases h10
      exact Kbq1f (by decide)
    · cases h11
      exact Kbq1t rfl
noncomputable def O_number  (σ : Mem) : Option (Int32 × Mem) := (O_misses σ).bind (fun q => lt q.1 (fun vq1 => lt q.2 (fun σ2 => if vq1 = (-3) then some ((-3), σ2) else if (vq1 &&& (σ2 0 3)) = 0 then (T_numberOf 10 5 σ2).bind (fun q => lt q.1 (fun vq10 => lt q.2 (fun σ11 => some (vq10, σ11)))) else some ((-1), σ2))))
set_option maxHeartbeats 4000000 in
set_option maxRecDepth 100000 in
theorem c_O_number (l : Launch) (Y : Wx)   (σ : Mem) (o : Int32 × Mem) (hf : O_number σ = some o) : Ct l Y 0 y_O_number b_O_number 2 (some .int) 4 [.ref (adr Y 0)] σ (some (.int o.1)) o.2 := by
  unfold O_number at hf
  refine ct_of (by decide) (Nat.le_of_ble_eq_true rfl) rfl (fun X hXl hX hR => ?_)
  subst hXl
  have hX : Fx X Y 0 b_O_number 2 R_O 4 := hX
  refine g_aload_n hX d_O_number_0 0 rfl ?_
  obtain ⟨⟨vq1, σ2⟩, h3, h4⟩ := obind hf
  have h4 := lt2 h4
  refine g_callV hX [] [] mv_O_166 (c_O_misses X.2.1 Y σ _ h3) (by decide) iw_0 sh_0 rfl rfl rfl (Nat.le_of_ble_eq_true rfl) d_O_number_1 (fun h5 => ?_)
  show Gd X Y 0 σ2 [(0, .ref (adr Y 0))] 4 [.int vq1]
  refine g_istore_nV hX [(1, .int vq1), (0, .ref (adr Y 0))] d_O_number_4 (by decide) rfl ?_
  refine g_iload_n hX d_O_number_5 0 rfl ?_
  refine g_bipush hX (-3) d_O_number_6 (by decide) ?_
  refine g_icmp_ne hX 14 d_O_number_8 (by decide) h4 (fun h6 => ?_) (fun h7 => ?_)
  · refine g_iload_n hX d_O_number_14 0 rfl ?_
    refine g_aload_n hX d_O_number_15 1 rfl ?_
    refine g_getI hX iw_0 sh_0 rfl fl_O_20.f d_O_number_16 ?_
    refine g_iand hX d_O_number_19 ?_
    refine g_if_eq hX 25 d_O_number_20 (by decide) h6 (fun h8 => ?_) (fun h9 => ?_)
    · refine g_aload_n hX d_O_number_25 1 rfl ?_
      refine g_getR hX iw_0 sh_0 rfl fl_O_42 d_O_number_26 ?_
      refine g_aload_n hX d_O_number_29 1 rfl ?_
      refine g_getR hX iw_0 sh_0 rfl fl_O_61 d_O_number_30 ?_
      obtain ⟨⟨vq10, σ11⟩, h12, h13⟩ := obind h8
      have h13 := lt2 h13
      refine g_callV hX [.ref (adr Y 5)] [] mv_O_169 (c_T_numberOf X.2.1 Y 10 5 isT_10 isA_5 σ2 _ h12) (by decide) iw_10 sh_10 rfl rfl rfl (Nat.le_of_ble_eq_true rfl) d_O_number_33 (fun h14 => ?_)
      show Gd X Y 0 σ11 [(1, .int vq1), (0, .ref (adr Y 0))] 36 [.int vq10]
      cases h13
      exact g_ireturn hX hR d_O_number_36
    · refine g_iconst hX (-1) d_O_number_23 (by decide) ?_
      cases h9
      exact g_ireturn hX hR d_O_number_24
  · refine g_bipush hX (-3) d_O_number_11 (by decide) ?_
    cases h7
    exact g_ireturn hX hR d_O_number_13
noncomputable def O_isForm (x0 : Int32) : Int32 := lt (if x0 < 0 then false else if 2 < x0 then false else true : Bool) (fun bq1 => lt (if bq1 = true then 1 else 0 : Int32) (fun vq13 => vq13))
set_option maxHeartbeats 4000000 in
set_option maxRecDepth 100000 in
theorem c_O_isForm (l : Launch) (Y : Wx) (x0 : Int32)  (σ : Mem) (o : Int32) (hf : O_isForm x0 = o) : Ct l Y 0 y_O_isForm b_O_isForm 1 (some .boolean) 0 [.int x0] σ (some (.int o)) σ := by
  unfold O_isForm at hf
  refine ct_of (by decide) (Nat.le_of_ble_eq_true rfl) rfl (fun X hXl hX hR => ?_)
  subst hXl
  have hX : Fx X Y 0 b_O_isForm 1 R_O 0 := hX
  refine g_iload_n hX d_O_isForm_0 0 rfl ?_
  obtain ⟨bq1, h2, h3⟩ := ltex hf
  obtain ⟨vq13, h8, h9⟩ := ltex h3
  have KJ9 : okR (some .boolean) (some (.int vq13)) → Gd X Y 0 σ [] 14 [.int vq13] := by
    intro hbvq13
    cases h9
    exact g_zreturn hX hR hbvq13 d_O_isForm_14
  have Kbq1t : bq1 = true → Gd X Y 0 σ [(0, .int x0)] 9 [] := by
    intro h14
    have h11 := (if_pos h14).symm.trans h8
    refine g_iconst hX 1 d_O_isForm_9 (by decide) ?_
    refine g_goto hX 14 d_O_isForm_10 (by decide) ?_
    refine g_sub (lv2 := []) [] rfl ?_
    cases h11
    exact KJ9 okB1
  have Kbq1f : ¬ bq1 = true → Gd X Y 0 σ [(0, .int x0)] 13 [] := by
    intro h14
    have h12 := (if_neg h14).symm.trans h8
    refine g_iconst hX 0 d_O_isForm_13 (by decide) ?_
    refine g_sub (lv2 := []) [] rfl ?_
    cases h12
    exact KJ9 okB0
  refine g_if_lt hX 13 d_O_isForm_1 (by decide) h2 (fun h4 => ?_) (fun h5 => ?_)
  · cases h4
    exact Kbq1f (by decide)
  · refine g_iload_n hX d_O_isForm_4 0 rfl ?_
    refine g_iconst hX 2 d_O_isForm_5 (by decide) ?_
    refine g_icmp_gt hX 13 d_O_isForm_6 (by decide) h5 (fun h6 => ?_) (fun h7 => ?_)
    · cases h6
      exact Kbq1f (by decide)
    · cases h7
      exact Kbq1t rfl
noncomputable def O_sheet (x1 : Int32) (x2 : Int32) (x3 : Int32) (σ : Mem) : Option (Int32 × Mem) := lt (if (O_isSheet x1) = 0 then true else if (O_isForm x2) = 0 then true else if x3 ≤ 60 then false else true : Bool) (fun bq2 => if bq2 = true then some ((-2), σ) else if 0 ≤ x3 then (S_lay x1 x2 x3 σ).bind (fun σ16 => some (x3, σ16)) else lt (O_found 5 σ) (fun q => lt q.1 (fun vq20 => lt q.2 (fun σ21 => some (vq20, σ21)))))
set_option maxHeartbeats 4000000 in
set_option maxRecDepth 100000 in
theorem c_O_sheet (l : Launch) (Y : Wx) (x1 : Int32) (x2 : Int32) (x3 : Int32)  (σ : Mem) (o : Int32 × Mem) (hf : O_sheet x1 x2 x3 σ = some o) : Ct l Y 0 y_O_sheet b_O_sheet 4 (some .int) 1 [.ref (adr Y 0), .int x1, .int x2, .int x3] σ (some (.int o.1)) o.2 := by
  unfold O_sheet at hf
  refine ct_of (by decide) (Nat.le_of_ble_eq_true rfl) rfl (fun X hXl hX hR => ?_)
  subst hXl
  have hX : Fx X Y 0 b_O_sheet 4 R_O 1 := hX
  refine g_iload_n hX d_O_sheet_0 1 rfl ?_
  refine g_callS hX [.int x1] [] mv_O_104 (c_O_isSheet X.2.1 Y x1 σ _ rfl) (by decide) rfl rfl (Nat.le_of_ble_eq_true rfl) d_O_sheet_1 (fun h1 => ?_)
  show Gd X Y 0 σ [(0, .ref (adr Y 0)), (1, .int x1), (2, .int x2), (3, .int x3)] 4 [.int (O_isSheet x1)]
  obtain ⟨bq2, h3, h4⟩ := ltex hf
  have Kbq2t : bq2 = true → Gd X Y 0 σ [(0, .ref (adr Y 0)), (1, .int x1), (2, .int x2), (3, .int x3)] 20 [] := by
    intro h25
    have h12 := (if_pos h25).symm.trans h4
    refine g_bipush hX (-2) d_O_sheet_20 (by decide) ?_
    cases h12
    exact g_ireturn hX hR d_O_sheet_22
  have Kbq2f : ¬ bq2 = true → Gd X Y 0 σ [(0, .ref (adr Y 0)), (1, .int x1), (2, .int x2), (3, .int x3)] 23 [] := by
    intro h25
    have h13 := (if_neg h25).symm.trans h4
    refine g_iload_n hX d_O_sheet_23 3 rfl ?_
    refine g_if_ge hX 33 d_O_sheet_24 (by decide) h13 (fun h14 => ?_) (fun h15 => ?_)
    · refine g_aload_n hX d_O_sheet_33 0 rfl ?_
      refine g_getR hX iw_0 sh_0 rfl fl_O_35 d_O_sheet_34 ?_
      refine g_iload_n hX d_O_sheet_37 1 rfl ?_
      refine g_iload_n hX d_O_sheet_38 2 rfl ?_
      refine g_iload_n hX d_O_sheet_39 3 rfl ?_
      obtain ⟨σ16, h17, h18⟩ := obind h14
      refine g_callV hX [.int x1, .int x2, .int x3] [] mv_O_175 (c_S_lay X.2.1 Y x1 x2 x3 σ _ h17) (by decide) iw_6 sh_6 rfl rfl rfl (Nat.le_of_ble_eq_true rfl) d_O_sheet_40 (fun h19 => ?_)
      show Gd X Y 0 σ16 [(0, .ref (adr Y 0)), (1, .int x1), (2, .int x2), (3, .int x3)] 43 []
      refine g_iload_n hX d_O_sheet_43 3 rfl ?_
      cases h18
      exact g_ireturn hX hR d_O_sheet_44
    · refine g_aload_n hX d_O_sheet_27 0 rfl ?_
      refine g_iconst hX 5 d_O_sheet_28 (by decide) ?_
      obtain ⟨⟨vq20, σ21⟩, h22, h23⟩ := ltex h15
      have h23 := lt2 h23
      refine g_callV hX [.int 5] [] mv_O_110 (c_O_found X.2.1 Y 5 σ _ h22) (by decide) iw_0 sh_0 rfl rfl rfl (Nat.le_of_ble_eq_true rfl) d_O_sheet_29 (fun h24 => ?_)
      show Gd X Y 0 σ21 [(0, .ref (adr Y 0)), (1, .int x1), (2, .int x2), (3, .int x3)] 32 [.int vq20]
      cases h23
      exact g_ireturn hX hR d_O_sheet_32
  refine g_if_eq hX 20 d_O_sheet_4 (by decide) h3 (fun h5 => ?_) (fun h6 => ?_)
  · cases h5
    exact Kbq2t rfl
  · refine g_iload_n hX d_O_sheet_7 2 rfl ?_
    refine g_callS hX [.int x2] [] mv_O_172 (c_O_isForm X.2.1 Y x2 σ _ rfl) (by decide) rfl rfl (Nat.le_of_ble_eq_true rfl) d_O_sheet_8 (fun h7 => ?_)
    show Gd X Y 0 σ [(0, .ref (adr Y 0)), (1, .int x1), (2, .int x2), (3, .int x3)] 11 [.int (O_isForm x2)]
    refine g_if_eq hX 20 d_O_sheet_11 (by decide) h6 (fun h8 => ?_) (fun h9 => ?_)
    · cases h8
      exact Kbq2t rfl
    · refine g_iload_n hX d_O_sheet_14 3 rfl ?_
      refine g_bipush hX 60 d_O_sheet_15 (by decide) ?_
      refine g_icmp_le hX 23 d_O_sheet_17 (by decide) h9 (fun h10 => ?_) (fun h11 => ?_)
      · cases h10
        exact Kbq2f (by decide)
      · cases h11
        exact Kbq2t rfl
noncomputable def O_lose (x1 : Int32) (σ : Mem) : Option (Int32 × Mem) := if (O_isSheet x1) = 0 then some ((-2), σ) else (S_isLost x1 σ).bind (fun vq4 => if vq4 = 0 then (S_sizeOf x1 σ).bind (fun vq10 => (S_drop x1 σ).bind (fun σ14 => some (vq10, σ14))) else lt (O_found 1 σ) (fun q => lt q.1 (fun vq18 => lt q.2 (fun σ19 => some (vq18, σ19)))))
set_option maxHeartbeats 4000000 in
set_option maxRecDepth 100000 in
theorem c_O_lose (l : Launch) (Y : Wx) (x1 : Int32)  (σ : Mem) (o : Int32 × Mem) (hf : O_lose x1 σ = some o) : Ct l Y 0 y_O_lose b_O_lose 3 (some .int) 1 [.ref (adr Y 0), .int x1] σ (some (.int o.1)) o.2 := by
  unfold O_lose at hf
  refine ct_of (by decide) (Nat.le_of_ble_eq_true rfl) rfl (fun X hXl hX hR => ?_)
  subst hXl
  have hX : Fx X Y 0 b_O_lose 3 R_O 1 := hX
  refine g_iload_n hX d_O_lose_0 1 rfl ?_
  refine g_callS hX [.int x1] [] mv_O_104 (c_O_isSheet X.2.1 Y x1 σ _ rfl) (by decide) rfl rfl (Nat.le_of_ble_eq_true rfl) d_O_lose_1 (fun h1 => ?_)
  show Gd X Y 0 σ [(0, .ref (adr Y 0)), (1, .int x1)] 4 [.int (O_isSheet x1)]
  refine g_if_ne hX 10 d_O_lose_4 (by decide) hf (fun h2 => ?_) (fun h3 => ?_)
  · refine g_aload_n hX d_O_lose_10 0 rfl ?_
    refine g_getR hX iw_0 sh_0 rfl fl_O_35 d_O_lose_11 ?_
    refine g_iload_n hX d_O_lose_14 1 rfl ?_
    obtain ⟨vq4, h5, h6⟩ := obind h2
    refine g_callV hX [.int x1] [] mv_O_107 (c_S_isLost X.2.1 Y x1 σ _ h5) (by decide) iw_6 sh_6 rfl rfl rfl (Nat.le_of_ble_eq_true rfl) d_O_lose_15 (fun h7 => ?_)
    show Gd X Y 0 σ [(0, .ref (adr Y 0)), (1, .int x1)] 18 [.int vq4]
    refine g_if_eq hX 27 d_O_lose_18 (by decide) h6 (fun h8 => ?_) (fun h9 => ?_)
    · refine g_aload_n hX d_O_lose_27 0 rfl ?_
      refine g_getR hX iw_0 sh_0 rfl fl_O_35 d_O_lose_28 ?_
      refine g_iload_n hX d_O_lose_31 1 rfl ?_
      obtain ⟨vq10, h11, h12⟩ := obind h8
      refine g_callV hX [.int x1] [] mv_O_113 (c_S_sizeOf X.2.1 Y x1 σ _ h11) (by decide) iw_6 sh_6 rfl rfl rfl (Nat.le_of_ble_eq_true rfl) d_O_lose_32 (fun h13 => ?_)
      show Gd X Y 0 σ [(0, .ref (adr Y 0)), (1, .int x1)] 35 [.int vq10]
      refine g_istore_nV hX [(2, .int vq10), (0, .ref (adr Y 0)), (1, .int x1)] d_O_lose_35 (by decide) rfl ?_
      refine g_aload_n hX d_O_lose_36 1 rfl ?_
      refine g_getR hX iw_0 sh_0 rfl fl_O_35 d_O_lose_37 ?_
      refine g_iload_n hX d_O_lose_40 2 rfl ?_
      obtain ⟨σ14, h15, h16⟩ := obind h12
      refine g_callV hX [.int x1] [] mv_O_179 (c_S_drop X.2.1 Y x1 σ _ h15) (by decide) iw_6 sh_6 rfl rfl rfl (Nat.le_of_ble_eq_true rfl) d_O_lose_41 (fun h17 => ?_)
      show Gd X Y 0 σ14 [(2, .int vq10), (0, .ref (adr Y 0)), (1, .int x1)] 44 []
      refine g_iload_n hX d_O_lose_44 0 rfl ?_
      cases h16
      exact g_ireturn hX hR d_O_lose_45
    · refine g_aload_n hX d_O_lose_21 0 rfl ?_
      refine g_iconst hX 1 d_O_lose_22 (by decide) ?_
      obtain ⟨⟨vq18, σ19⟩, h20, h21⟩ := ltex h9
      have h21 := lt2 h21
      refine g_callV hX [.int 1] [] mv_O_110 (c_O_found X.2.1 Y 1 σ _ h20) (by decide) iw_0 sh_0 rfl rfl rfl (Nat.le_of_ble_eq_true rfl) d_O_lose_23 (fun h22 => ?_)
      show Gd X Y 0 σ19 [(0, .ref (adr Y 0)), (1, .int x1)] 26 [.int vq18]
      cases h21
      exact g_ireturn hX hR d_O_lose_26
  · refine g_bipush hX (-2) d_O_lose_7 (by decide) ?_
    cases h3
    exact g_ireturn hX hR d_O_lose_9
noncomputable def O_findingOf (x1 : Int32) (x2 : Int32) (x3 : Int32) (σ : Mem) : Option (Int32) := (S_isLost x1 σ).bind (fun vq1 => if vq1 = 0 then (S_formOf x1 σ).bind (fun vq7 => if vq7 = x2 then ((if x3 < 0 then some true else (S_sizeOf x1 σ).bind (fun vq18 => if x3 < vq18 then some false else some true) : Option (Bool))).bind (fun bq13 => lt (if bq13 = true then 2 else 0 : Int32) (fun vq29 => some vq29)) else some 3) else some 1)
set_option maxHeartbeats 4000000 in
set_option maxRecDepth 100000 in
theorem c_O_findingOf (l : Launch) (Y : Wx) (x1 : Int32) (x2 : Int32) (x3 : Int32)  (σ : Mem) (o : Int32) (hf : O_findingOf x1 x2 x3 σ = some o) : Ct l Y 0 y_O_findingOf b_O_findingOf 4 (some .int) 1 [.ref (adr Y 0), .int x1, .int x2, .int x3] σ (some (.int o)) σ := by
  unfold O_findingOf at hf
  refine ct_of (by decide) (Nat.le_of_ble_eq_true rfl) rfl (fun X hXl hX hR => ?_)
  subst hXl
  have hX : Fx X Y 0 b_O_findingOf 4 R_O 1 := hX
  refine g_aload_n hX d_O_findingOf_0 0 rfl ?_
  refine g_getR hX iw_0 sh_0 rfl fl_O_35 d_O_findingOf_1 ?_
  refine g_iload_n hX d_O_findingOf_4 1 rfl ?_
  obtain ⟨vq1, h2, h3⟩ := obind hf
  refine g_callV hX [.int x1] [] mv_O_107 (c_S_isLost X.2.1 Y x1 σ _ h2) (by decide) iw_6 sh_6 rfl rfl rfl (Nat.le_of_ble_eq_true rfl) d_O_findingOf_5 (fun h4 => ?_)
  show Gd X Y 0 σ [(0, .ref (adr Y 0)), (1, .int x1), (2, .int x2), (3, .int x3)] 8 [.int vq1]
  refine g_if_eq hX 13 d_O_findingOf_8 (by decide) h3 (fun h5 => ?_) (fun h6 => ?_)
  · refine g_aload_n hX d_O_findingOf_13 0 rfl ?_
    refine g_getR hX iw_0 sh_0 rfl fl_O_35 d_O_findingOf_14 ?_
    refine g_iload_n hX d_O_findingOf_17 1 rfl ?_
    obtain ⟨vq7, h8, h9⟩ := obind h5
    refine g_callV hX [.int x1] [] mv_O_190 (c_S_formOf X.2.1 Y x1 σ _ h8) (by decide) iw_6 sh_6 rfl rfl rfl (Nat.le_of_ble_eq_true rfl) d_O_findingOf_18 (fun h10 => ?_)
    show Gd X Y 0 σ [(0, .ref (adr Y 0)), (1, .int x1), (2, .int x2), (3, .int x3)] 21 [.int vq7]
    refine g_iload_n hX d_O_findingOf_21 2 rfl ?_
    refine g_icmp_eq hX 27 d_O_findingOf_22 (by decide) h9 (fun h11 => ?_) (fun h12 => ?_)
    · refine g_iload_n hX d_O_findingOf_27 3 rfl ?_
      obtain ⟨bq13, h14, h15⟩ := obind h11
      obtain ⟨vq29, h24, h25⟩ := ltex h15
      have KJ25 : Gd X Y 0 σ [] 48 [.int vq29] := by
        cases h25
        exact g_ireturn hX hR d_O_findingOf_48
      have Kbq13t : bq13 = true → Gd X Y 0 σ [(0, .ref (adr Y 0)), (1, .int x1), (2, .int x2), (3, .int x3)] 43 [] := by
        intro h30
        have h27 := (if_pos h30).symm.trans h24
        refine g_iconst hX 2 d_O_findingOf_43 (by decide) ?_
        refine g_goto hX 48 d_O_findingOf_44 (by decide) ?_
        refine g_sub (lv2 := []) [] rfl ?_
        cases h27
        exact KJ25
      have Kbq13f : ¬ bq13 = true → Gd X Y 0 σ [(0, .ref (adr Y 0)), (1, .int x1), (2, .int x2), (3, .int x3)] 47 [] := by
        intro h30
        have h28 := (if_neg h30).symm.trans h24
        refine g_iconst hX 0 d_O_findingOf_47 (by decide) ?_
        refine g_sub (lv2 := []) [] rfl ?_
        cases h28
        exact KJ25
      refine g_if_lt hX 43 d_O_findingOf_28 (by decide) h14 (fun h16 => ?_) (fun h17 => ?_)
      · cases h16
        exact Kbq13t rfl
      · refine g_iload_n hX d_O_findingOf_31 3 rfl ?_
        refine g_aload_n hX d_O_findingOf_32 0 rfl ?_
        refine g_getR hX iw_0 sh_0 rfl fl_O_35 d_O_findingOf_33 ?_
        refine g_iload_n hX d_O_findingOf_36 1 rfl ?_
        obtain ⟨vq18, h19, h20⟩ := obind h17
        refine g_callV hX [.int x1] [.int x3] mv_O_113 (c_S_sizeOf X.2.1 Y x1 σ _ h19) (by decide) iw_6 sh_6 rfl rfl rfl (Nat.le_of_ble_eq_true rfl) d_O_findingOf_37 (fun h21 => ?_)
        show Gd X Y 0 σ [(0, .ref (adr Y 0)), (1, .int x1), (2, .int x2), (3, .int x3)] 40 [.int vq18, .int x3]
        refine g_icmp_lt hX 47 d_O_findingOf_40 (by decide) h20 (fun h22 => ?_) (fun h23 => ?_)
        · cases h22
          exact Kbq13f (by decide)
        · cases h23
          exact Kbq13t rfl
    · refine g_iconst hX 3 d_O_findingOf_25 (by decide) ?_
      cases h12
      exact g_ireturn hX hR d_O_findingOf_26
  · refine g_iconst hX 1 d_O_findingOf_11 (by decide) ?_
    cases h6
    exact g_ireturn hX hR d_O_findingOf_12
