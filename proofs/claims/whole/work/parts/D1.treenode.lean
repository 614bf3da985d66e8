theorem CI.ct {σ : Mem} {n : Nat} {G : Nat → Nat} {c : Nat} {kd : Nat → Bool} {ch : Nat → List Nat} {st : Nat → Nat} {root : Nat} (h : CI σ n G c kd ch st root) : CT n ((List.range 11).map (nget G (tkB n G c) 0)) kd ch st 8 root := by
  obtain ⟨⟨a1, a2, a3, a4, a5, a6, a7, a8, a9, a10, a11, a12⟩, -⟩ := h
  refine ⟨a8.2.1, a9, fun N hN => a8.2.2.1 N hN, fun r => ?_⟩
  rw [a10, rg_rw]
theorem neg_cases {x : Int32} (h : x < 0) : x = -1 ∨ x < -1 := by
  by_cases q : x = -1
  · exact Or.inl q
  · right
    rw [Int32.lt_iff_toInt_lt] at h ⊢
    have e1 : (-1 : Int32).toInt = -1 := by decide
    have e0 : (0 : Int32).toInt = 0 := by decide
    have : x.toInt ≠ -1 := fun e => q (Int32.toInt_inj.mp (by rw [e, e1]))
    rw [e1]; rw [e0] at h; omega
theorem s_tree {σ μ : Mem} (h : CMx σ μ) (x : Int32) : ∃ a μ', O_tree x σ = some a ∧ M_tree x μ = some (a, μ') ∧ CMx σ μ' ∧ KM μ μ' := by
  have h0 := h
  obtain ⟨n, G, c, ⟨kd, ch, st, root, hC⟩, hM⟩ := h
  have hCT := hC.ct
  have hbad : ((x < -1) ∨ (40 : Int32) ≤ x) → ∃ a μ', O_tree x σ = some a ∧ M_tree x μ = some (a, μ') ∧ CMx σ μ' ∧ KM μ μ' := fun hb => by
    refine ⟨-2, μ, ?_, ?_, h0, KM.rf⟩
    · unfold O_tree
      refine lti (b := true) ?_ (ifp rfl rfl)
      by_cases q : x < -1
      · exact if_pos q
      · rw [if_neg q]
        exact if_neg (Int32.not_lt.mpr (hb.resolve_left q))
    · unfold M_tree
      refine ob (a := (-2, μ)) (ifp ?_ rfl) (lti rfl (lti rfl rfl))
      rw [M_in_eq]
      by_cases q : x < -1
      · exact if_pos q
      · rw [if_neg q]
        have := hb.resolve_left q
        refine if_pos ?_
        rw [Int32.lt_iff_toInt_lt]
        rw [Int32.le_iff_toInt_le] at this
        have e1 : (39 : Int32).toInt = 39 := by decide
        have e2 : (40 : Int32).toInt = 40 := by decide
        rw [e2] at this; rw [e1]; omega
  rcases pk_ix x (n := 40) (by omega) with hx | hx | ⟨j, hj, rfl⟩
  · rcases neg_cases hx with e | e
    · subst e
      obtain ⟨τ, t1, t2⟩ := M_treeOf_len hM rfl hCT
      refine ⟨nI (txD kd ch 8 root).length, τ, ?_, ?_, ⟨n, G, c, ⟨kd, ch, st, root, hC⟩, t2.mi hM⟩, t2.km⟩
      · unfold O_tree
        refine lti (b := false) (by decide) ?_
        refine ifn (by decide) ?_
        refine ifp rfl ?_
        rw [hC.2.1]
      · unfold M_tree
        refine ob (a := (nI (txD kd ch 8 root).length, τ)) ?_ (lti rfl (lti rfl rfl))
        refine ifn (by rw [M_in_eq]; decide) ?_
        exact ob t1 (lti rfl (lti rfl rfl))
    · exact hbad (Or.inl e)
  · exact hbad (Or.inr hx)
  · obtain ⟨τ, t1, t2⟩ := M_treeOf_at hM rfl hCT (j := j) (by omega)
    have hl : (txD kd ch 8 root).length < 2 ^ 31 := by
      have := (nd_lv 8 root hCT.1); have := lv_le8 hCT.1; omega
    have hn1 : ¬ nI j < -1 := fun e => by
      rw [Int32.lt_iff_toInt_lt, nI_toInt (by omega)] at e
      have e1 : (-1 : Int32).toInt = -1 := by decide
      rw [e1] at e; omega
    refine ⟨(if j < (txD kd ch 8 root).length then nI ((txD kd ch 8 root).getD j 0) else -1), τ, ?_, ?_, ⟨n, G, c, ⟨kd, ch, st, root, hC⟩, t2.mi hM⟩, t2.km⟩
    · unfold O_tree
      refine lti (b := false) ?_ ?_
      · rw [if_neg hn1]; exact if_pos (nI_lt (b := 40) hj (by omega))
      refine ifn (by decide) ?_
      refine ifn (nI_nm1 (by omega)) ?_
      rw [hC.2.1]
      by_cases q : j < (txD kd ch 8 root).length
      · rw [if_pos q]
        refine ob (a := nI ((txD kd ch 8 root).getD j 0)) ?_ rfl
        refine ifn (nI_ge q hl) ?_
        refine ob (a := nI ((txD kd ch 8 root).getD j 0)) ?_ rfl
        rw [rdT (N := 40) rfl hj (by omega), hC.2.2 j q]
      · rw [if_neg q]
        exact ob (a := -1) (ifp (nI_le (by omega) (by omega)) rfl) rfl
    · unfold M_tree
      refine ob (a := ((if j < (txD kd ch 8 root).length then nI ((txD kd ch 8 root).getD j 0) else -1), τ)) ?_ (lti rfl (lti rfl rfl))
      refine ifn ?_ ?_
      · rw [M_in_eq, if_neg hn1, if_neg (show ¬ (39 : Int32) < nI j from nI_nlt (a := 39) (by omega) (by omega))]; decide
      · exact ob t1 (lti rfl (lti rfl rfl))
theorem s_node {σ μ : Mem} (h : CMx σ μ) (x y : Int32) : ∃ a μ', O_node x y σ = some a ∧ M_node x y μ = some (a, μ') ∧ CMx σ μ' ∧ KM μ μ' := by
  have h0 := h
  obtain ⟨n, G, c, ⟨kd, ch, st, root, hC⟩, hM⟩ := h
  have hCT := hC.ct
  obtain ⟨cn, f0, f1, f2, f3, f4, f5, f6⟩ := hC.1.2.2.2.2.2.2.2.1.facts
  have hA := hC.1.2.2.2.2.2.2.2.1.1.1
  have e1 : ∀ k, (if M_in x 0 6 = 0 then false else if M_in y 0 2 = 0 then false else true : Bool) = k ↔ (decide (M_in x 0 6 ≠ 0 ∧ M_in y 0 2 ≠ 0) = k) := fun k => by
    by_cases a : M_in x 0 6 = 0
    · simp [a]
    · by_cases b : M_in y 0 2 = 0
      · simp [a, b]
      · simp [a, b]
  rcases in_lo (x := x) (lo := 0) (hi := 6) (by omega) (by omega) with ⟨j, j1, j2, rfl⟩ | hx
  · rcases in_lo (x := y) (lo := 0) (hi := 2) (by omega) (by omega) with ⟨w, w1, w2, rfl⟩ | hy
    · have m1 : M_in (nI j) 0 6 = 1 := by rw [M_in_eq, if_neg (nI_pos (by omega)), if_neg (show ¬ (6 : Int32) < nI j from nI_nlt (a := 6) j2 (by omega))]
      have m2 : M_in (nI w) 0 2 = 1 := by rw [M_in_eq, if_neg (nI_pos (by omega)), if_neg (show ¬ (2 : Int32) < nI w from nI_nlt (a := 2) w2 (by omega))]
      obtain ⟨τ, t1, t2⟩ := M_nodeFor_at hM rfl hCT (j := j) (by omega) (nI w)
      have hgd : j < cn → (ndD ch 8 root).getD j 0 = 8 + j := fun hj => by
        have hrg := hC.1.2.2.2.2.2.2.2.1.2.2.2.2
        rw [← f0] at hrg
        rw [hrg, List.getD_eq_getElem?_getD, List.getElem?_range' hj]; simp
      rw [← f0] at t1
      refine ⟨(if j < cn then (if nI w = 0 then (if kd ((ndD ch 8 root).getD j 0) = true then 1 else 0) else if nI w = 1 then nI (ch ((ndD ch 8 root).getD j 0)).length else nI (st ((ndD ch 8 root).getD j 0))) else -1), τ, ?_, ?_, ⟨n, G, c, ⟨kd, ch, st, root, hC⟩, t2.mi hM⟩, t2.km⟩
      · unfold O_node
        refine lti (b := false) ?_ ?_
        · rw [if_neg (nI_pos (by omega)), if_neg (show ¬ (7 : Int32) ≤ nI j from nI_ge (b := 7) (by omega) (by omega)), if_neg (nI_pos (by omega))]
          exact if_pos (nI_le (b := 2) w2 (by omega))
        refine ifn (by decide) ?_
        have e5 : T_nodeCount 10 σ = nI cn := f2
        rw [e5]
        by_cases q : j < cn
        · refine ifp (nI_lt q (by omega)) ?_
          rw [if_pos q, hgd q]
          obtain ⟨g1, g2, g3, g4, g5, g6⟩ := f6 (8 + j) (by omega) (by omega)
          have ek := hA.kind isT10 (by omega : 8 + j < 24) g2
          have es := hA.size isT10 (by omega : 8 + j < 24)
          have et := hA.set isT10 (by omega : 8 + j < 24) (Or.inr g2)
          have e8 : (8 : Int32) + nI j = nI (8 + j) := by rw [L_8, nI_add]
          have hin : (if nI j < 0 then false else if (σ 10 5) ≤ nI j then false else true : Bool) = true := by
            rw [if_neg (nI_pos (by omega)), f2]; exact if_neg (nI_ge q (by omega))
          have hw3 : w = 0 ∨ w = 1 ∨ w = 2 := by omega
          rcases hw3 with rfl | rfl | rfl
          · refine ifp rfl ?_
            rw [if_pos (show nI 0 = 0 from rfl)]
            have ht : T_isTurning 10 (nI j) σ = some (if kd (8 + j) = true then 1 else 0) := by
              unfold T_isTurning
              refine ob (a := kd (8 + j)) ?_ ?_
              · refine ifn (nI_pos (by omega)) ?_
                refine ifn (by rw [f2]; exact nI_ge q (by omega)) ?_
                rw [e8]
                refine ob ek ?_
                cases kd (8 + j) <;> rfl
              · exact lti rfl rfl
            refine ob ht ?_
            cases kd (8 + j) <;> exact lti rfl rfl
          · refine ifn (by decide) ?_
            have ea : (if nI 1 = 0 then (if kd (8 + j) = true then (1 : Int32) else 0) else if nI 1 = 1 then nI (ch (8 + j)).length else nI (st (8 + j))) = nI (ch (8 + j)).length := by rw [if_neg (show ¬ nI 1 = 0 by decide), if_pos (show nI 1 = 1 from rfl)]
            rw [ea]
            refine ob (a := nI (ch (8 + j)).length) ?_ rfl
            refine ifp rfl ?_
            refine ob (a := nI (ch (8 + j)).length) ?_ rfl
            unfold T_partCount
            refine lti hin ?_
            refine ob (a := nI (ch (8 + j)).length) ?_ rfl
            refine ifp rfl ?_
            rw [e8]
            exact ob es rfl
          · refine ifn (by decide) ?_
            have ea : (if nI 2 = 0 then (if kd (8 + j) = true then (1 : Int32) else 0) else if nI 2 = 1 then nI (ch (8 + j)).length else nI (st (8 + j))) = nI (st (8 + j)) := by rw [if_neg (show ¬ nI 2 = 0 by decide), if_neg (show ¬ nI 2 = 1 by decide)]
            rw [ea]
            refine ob (a := nI (st (8 + j))) ?_ rfl
            refine ifn (by decide) ?_
            refine ob (a := nI (st (8 + j))) ?_ rfl
            unfold T_thingsOf
            refine lti hin ?_
            refine ob (a := nI (st (8 + j))) ?_ rfl
            refine ifp rfl ?_
            rw [e8]
            exact ob et rfl
        · refine ifn (nI_nlt (by omega) (by omega)) ?_
          rw [if_neg q]
      · unfold M_node
        refine lti (b := true) ((e1 true).mpr (by rw [m1, m2]; decide)) ?_
        refine ob (ifp rfl (ob t1 (lti rfl (lti rfl rfl)))) ?_
        exact lti rfl (lti rfl rfl)
    · refine ⟨-2, μ, ?_, ?_, h0, KM.rf⟩
      · unfold O_node
        refine lti (b := true) ?_ (ifp rfl rfl)
        rw [if_neg (nI_pos (by omega)), if_neg (show ¬ (7 : Int32) ≤ nI j from nI_ge (b := 7) (by omega) (by omega))]
        rcases hy with q | q
        · exact if_pos q
        · by_cases q2 : y < 0
          · exact if_pos q2
          · rw [if_neg q2]; exact if_neg (Int32.not_le.mpr q)
      · unfold M_node
        have m2 : M_in y 0 2 = 0 := by
          rw [M_in_eq]
          rcases hy with q | q
          · exact if_pos q
          · by_cases q2 : y < 0
            · exact if_pos q2
            · rw [if_neg q2]; exact if_pos q
        refine lti (b := false) ((e1 false).mpr (by rw [m2]; simp)) ?_
        exact ob (a := (-2, μ)) (ifn (by decide) rfl) (lti rfl (lti rfl rfl))
  · refine ⟨-2, μ, ?_, ?_, h0, KM.rf⟩
    · unfold O_node
      refine lti (b := true) ?_ (ifp rfl rfl)
      rcases hx with q | q
      · exact if_pos q
      · by_cases q2 : x < 0
        · exact if_pos q2
        · rw [if_neg q2]
          refine if_pos ?_
          obtain ⟨k, k1, k2⟩ := nI_of q2
          subst k2
          have := (nI_ltI (a := 6) (by omega) k1).mp q
          exact nI_le (a := 7) (by omega) k1
    · unfold M_node
      have m1 : M_in x 0 6 = 0 := by
        rw [M_in_eq]
        rcases hx with q | q
        · exact if_pos q
        · by_cases q2 : x < 0
          · exact if_pos q2
          · rw [if_neg q2]; exact if_pos q
      refine lti (b := false) ((e1 false).mpr (by rw [m1]; simp)) ?_
      exact ob (a := (-2, μ)) (ifn (by decide) rfl) (lti rfl (lti rfl rfl))
