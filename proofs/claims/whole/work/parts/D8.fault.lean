theorem row0_len {n L : Nat} {T : Nat → Nat} (h : Row0 n L T) : L ≤ n := by
  have h1 : ((List.range L).map (fun k => T k - 97)).Nodup := by
    unfold List.Nodup
    rw [List.pairwise_map]
    refine List.Pairwise.imp_of_mem ?_ (List.pairwise_lt_range (n := L))
    intro a b ha hb hab e
    rw [List.mem_range] at ha hb
    have := h.1 a ha; have := h.1 b hb
    exact h.2 a b hab hb (by omega)
  have := len_sub _ (List.range n) h1 (fun x hx => by
    obtain ⟨k, hk, e⟩ := List.mem_map.mp hx
    rw [List.mem_range] at hk ⊢
    have := h.1 k hk; omega)
  simpa using this
theorem fault_val {σ μ : Mem} {n : Nat} {G : Nat → Nat} {c L : Nat} {T : Nat → Nat} (h0 : σ 0 0 = nI n) (hM : MI μ n G c) (ht : Td σ μ L T) : ∃ a, O_fault σ = some a ∧ M_faultOf μ = some a ∧ (a = -1 ↔ (Row0 n L T ∧ (L = 0 ∨ L = n))) := by
  obtain ⟨r, f1, f2, f3⟩ := fault_loop h0 hM ht
  obtain ⟨a1, a2, a3, a4⟩ := ht
  have hn := hM.2.2.1
  rcases f3 with ⟨e, hR⟩ | ⟨i, hi, e, hnr⟩
  · subst e
    have hl := row0_len hR
    by_cases c1 : L = 0 ∨ L = n
    · refine ⟨-1, ?_, ?_, ⟨fun _ => ⟨hR, c1⟩, fun _ => rfl⟩⟩
      · unfold O_fault
        refine ob f1 ?_
        show lt (if σ 0 5 = 0 then true else if σ 0 5 = σ 0 0 then true else false : Bool) (fun bq30 => lt (if bq30 = true then (-1) else (σ 0 5) : Int32) (fun vq42 => some vq42)) = _
        refine lti (b := true) ?_ (lti rfl rfl)
        rw [a1, h0]
        rcases c1 with q | q
        · rw [q]; exact if_pos rfl
        · by_cases q2 : nI L = 0
          · exact if_pos q2
          · rw [if_neg q2, q]; exact if_pos rfl
      · unfold M_faultOf
        refine ob f2 ?_
        show lt (if (μ 43 22) ≤ 0 then false else if (μ 43 0) ≤ (μ 43 22) then false else true : Bool) (fun bq31 => lt (if bq31 = true then (μ 43 22) else (-1) : Int32) (fun vq43 => some vq43)) = _
        refine lti (b := false) ?_ (lti rfl rfl)
        rw [a3, hM.1]
        rcases c1 with q | q
        · rw [q]; exact if_pos (by decide)
        · by_cases q2 : nI L ≤ 0
          · exact if_pos q2
          · rw [if_neg q2, q]; exact if_pos (nI_le (Nat.le_refl _) (by omega))
    · refine ⟨nI L, ?_, ?_, ⟨fun e => absurd e (nI_nm1 (by omega)), fun q => absurd q.2 c1⟩⟩
      · unfold O_fault
        refine ob f1 ?_
        show lt (if σ 0 5 = 0 then true else if σ 0 5 = σ 0 0 then true else false : Bool) (fun bq30 => lt (if bq30 = true then (-1) else (σ 0 5) : Int32) (fun vq42 => some vq42)) = _
        refine lti (b := false) ?_ (lti (by rw [a1]; rfl) rfl)
        rw [a1, h0, if_neg (nI_ne0 (by omega) (by omega)), if_neg (nI_ne (by omega) (by omega) (by omega))]
      · unfold M_faultOf
        refine ob f2 ?_
        show lt (if (μ 43 22) ≤ 0 then false else if (μ 43 0) ≤ (μ 43 22) then false else true : Bool) (fun bq31 => lt (if bq31 = true then (μ 43 22) else (-1) : Int32) (fun vq43 => some vq43)) = _
        refine lti (b := true) ?_ (lti (by rw [a3]; rfl) rfl)
        rw [a3, hM.1, if_neg (nI_nle (by omega) (by omega)), if_neg (nI_ge (by omega) (by omega))]
  · subst e
    exact ⟨nI i, ob f1 rfl, ob f2 rfl, ⟨fun e => absurd e (nI_nm1 (by omega)), fun q => absurd q.1 hnr⟩⟩
theorem s_fault {σ μ : Mem} (h : CMx σ μ) (ht : Tdx σ μ) : ∃ a, O_fault σ = some a ∧ M_fault μ = some a := by
  obtain ⟨n, G, c, ⟨kd, ch, st, root, hC⟩, hM⟩ := h
  obtain ⟨L, T, hT⟩ := ht
  obtain ⟨a, f1, f2, -⟩ := fault_val hC.1.1 hM hT
  exact ⟨a, f1, by unfold M_fault; exact ob f2 rfl⟩
def pc10 (m : Nat) : Nat := ((List.range 10).filter (fun k => m.testBit k)).length
theorem bc10 : ∀ m, m < 1024 → J_bitCount (nI m) = nI (pc10 m) := by decide +kernel
theorem takenMany_eq {μ : Mem} {n : Nat} {G : Nat → Nat} {c : Nat} (hM : MI μ n G c) : ∃ μ', M_takenMany μ = some (nI (pc10 (tkB n G c)), μ') ∧ MI μ' n G c ∧ PubM μ μ' := by
  obtain ⟨w, w1⟩ := M_takenNow_eq hM
  have hc := hM.2.2.2.2.1
  have htl := tkB_lt (n := n) (G := G) (c := c) hc
  have hM1 : MI (mset μ 45 w) n G c := hM.m45
  have key : ∃ r, lp (fun s => M_takenMany_b1 (nI (tkB n G c)) (mset μ 45 w) s.1 s.2) fuel (0, 0) = some r ∧ r = nI ((List.range c).filter (fun k => (tkB n G c).testBit k)).length := by
    refine lp_for c (fun j s => s = (nI ((List.range j).filter (fun k => (tkB n G c).testBit k)).length, nI j)) _ _ 0 (by omega) rfl (by omega) ?_ ?_
    · intro j s hj hs
      subst hs
      left
      refine ⟨_, ?_, rfl⟩
      unfold M_takenMany_b1
      refine ifn (by rw [hM1.2.2.2.1]; exact nI_ge hj (by omega)) ?_
      refine lti (b := nI (if (tkB n G c).testBit j = true then 1 else 0)) ?_ ?_
      · show (if M_isIn (nI (tkB n G c)) (nI j) = 0 then (0 : Int32) else 1) = _
        rw [M_isIn_eq (by omega) (by omega)]
        by_cases q : (tkB n G c).testBit j = true
        · rw [if_pos q, if_pos q]; rfl
        · rw [if_neg q, if_neg q]; rfl
      · refine lti (b := nI ((List.range (j + 1)).filter (fun k => (tkB n G c).testBit k)).length) ?_ (lti (nI_1 _) rfl)
        rw [nI_add, List.range_succ, List.filter_append, List.length_append]
        congr 2
        by_cases q : (tkB n G c).testBit j = true
        · rw [if_pos q]; simp [q]
        · rw [if_neg q]; simp [q]
    · intro s hs
      subst hs
      refine ⟨_, ?_, rfl⟩
      unfold M_takenMany_b1
      exact ifp (by rw [hM1.2.2.2.1]; exact nI_le (Nat.le_refl _) (by omega)) rfl
  obtain ⟨r, k1, k2⟩ := key
  refine ⟨mset μ 45 w, ?_, hM1, PubM.set (by decide)⟩
  unfold M_takenMany
  refine ob w1 ?_
  refine lti rfl ?_
  refine lti rfl ?_
  refine ob k1 ?_
  rw [k2]
  congr 3
  unfold pc10
  have e : List.range 10 = List.range c ++ (List.range (10 - c)).map (fun x => c + x) := by
    rw [← List.range_add, show c + (10 - c) = 10 by omega]
  rw [e, List.filter_append, List.length_append]
  have z : ((List.range (10 - c)).map (fun x => c + x)).filter (fun k => (tkB n G c).testBit k) = [] := by
    rw [List.filter_eq_nil_iff]
    intro a ha q
    obtain ⟨x, hx, e⟩ := List.mem_map.mp ha
    have := tkB_bit q
    omega
  rw [z]; rfl
theorem turning_eq {σ : Mem} {kd : Nat → Bool} {ch : Nat → List Nat} {st : Nat → Nat} {root : Nat} (h : DR σ 10 kd ch st root) : T_turningCount 10 σ = some (nI ((ndD ch 8 root).filter kd).length) := by
  obtain ⟨cn, f0, f1, f2, f3, f4, f5, f6⟩ := h.facts
  have hrg := h.2.2.2.2
  rw [← f0] at hrg
  have key : ∃ r, lp (fun s => T_turningCount_b1 10 σ s.1 s.2) fuel (0, 0) = some r ∧ r = nI ((List.range' 8 cn).filter kd).length := by
    refine lp_for cn (fun j s => s = (nI ((List.range' 8 j).filter kd).length, nI j)) _ _ 0 (by omega) rfl (by omega) ?_ ?_
    · intro j s hj hs
      subst hs
      left
      refine ⟨_, ?_, rfl⟩
      obtain ⟨g1, g2, -⟩ := f6 (8 + j) (by omega) (by omega)
      have ek := h.1.1.kind isT10 (by omega : 8 + j < 24) g2
      unfold T_turningCount_b1
      refine ifn (by rw [f2]; exact nI_ge hj (by omega)) ?_
      refine ob (a := if kd (8 + j) = true then 1 else 0) (by show rd σ (10 + 1) (8 + nI j) = _; rw [L_8, nI_add]; exact ek) ?_
      refine lti (b := nI ((List.range' 8 (j + 1)).filter kd).length) ?_ (lti (nI_1 _) rfl)
      rw [List.range'_1_concat, List.filter_append, List.length_append, ← nI_add]
      congr 1
      by_cases q : kd (8 + j) = true
      · rw [if_pos q]; simp [q]; rfl
      · rw [if_neg q]; simp [q]; rfl
    · intro s hs
      subst hs
      refine ⟨_, ?_, rfl⟩
      unfold T_turningCount_b1
      exact ifp (by rw [f2]; exact nI_le (Nat.le_refl _) (by omega)) rfl
  obtain ⟨r, k1, k2⟩ := key
  unfold T_turningCount
  refine ob k1 ?_
  rw [k2, ← hrg]
theorem nodesOf_eq {μ : Mem} {n : Nat} {G : Nat → Nat} {c : Nat} (hM : MI μ n G c) {kd : Nat → Bool} {ch : Nat → List Nat} {st : Nat → Nat} {root : Nat} (hC : CT n ((List.range 11).map (nget G (tkB n G c) 0)) kd ch st 8 root) (b : Bool) : ∃ μ', M_nodesOf (if b = true then 1 else 0) μ = some (nI (if b = true then ((ndD ch 8 root).filter kd).length else (ndD ch 8 root).length), μ') ∧ PubM μ μ' := by
  obtain ⟨-, h7, τ, t1, t2, t3, t4, t5, t6⟩ := findsTree_CT hM rfl hC
  have key : ∃ r, lp (fun s => M_nodesOf_b1 (if b = true then 1 else 0) τ s.1 s.2) fuel (0, 0) = some r ∧ r = nI (if b = true then (((ndD ch 8 root).take (ndD ch 8 root).length).filter kd).length else (ndD ch 8 root).length) := by
    refine lp_for (ndD ch 8 root).length (fun j s => s = (nI (if b = true then (((ndD ch 8 root).take j).filter kd).length else j), nI j)) _ _ 0 (by omega) (by cases b <;> rfl) (by omega) ?_ ?_
    · intro j s hj hs
      subst hs
      left
      refine ⟨_, ?_, rfl⟩
      obtain ⟨-, q2, -, -⟩ := t6 j hj
      unfold M_nodesOf_b1
      refine ifn (by rw [t5]; exact nI_ge hj (by omega)) ?_
      cases b
      · refine ob (a := 1) (ifp rfl rfl) ?_
        exact lti (nI_1 _) (lti (nI_1 _) rfl)
      · refine ob (a := if kd ((ndD ch 8 root).getD j 0) = true then 1 else 0) ?_ ?_
        · refine ifn (show ¬ (1 : Int32) = 0 by decide) ?_
          refine ob (a := if kd ((ndD ch 8 root).getD j 0) = true then 1 else 0) ?_ rfl
          rw [rdT (N := 8) rfl (by omega) (by omega), q2]
        · refine lti (b := nI (((ndD ch 8 root).take (j + 1)).filter kd).length) ?_ (lti (nI_1 _) rfl)
          rw [take_succ' hj, List.filter_append, List.length_append, ← nI_add]
          show nI _ + _ = _
          congr 1
          by_cases q : kd ((ndD ch 8 root).getD j 0) = true
          · rw [if_pos q, List.filter_cons_of_pos q]; rfl
          · rw [if_neg q, List.filter_cons_of_neg q]; rfl
    · intro s hs
      subst hs
      refine ⟨_, ?_, rfl⟩
      unfold M_nodesOf_b1
      exact ifp (by rw [t5]; exact nI_le (Nat.le_refl _) (by omega)) rfl
  obtain ⟨r, k1, k2⟩ := key
  rw [List.take_length] at k2
  refine ⟨τ, ?_, t2⟩
  unfold M_nodesOf
  refine ob t1 ?_
  refine ob k1 ?_
  rw [k2]
theorem s_count {σ μ : Mem} (h : CMx σ μ) (ht : Tdx σ μ) (hf : Fnd σ μ) (x : Int32) : ∃ a μ', O_count x σ = some a ∧ M_count x μ = some (a, μ') ∧ CMx σ μ' ∧ KM μ μ' := by
  have h0 := h
  obtain ⟨n, G, c, ⟨kd, ch, st, root, hC⟩, hM⟩ := h
  obtain ⟨L, T, hT⟩ := ht
  have keep : ∀ μ', MI μ' n G c → CMx σ μ' := fun μ' h => ⟨n, G, c, ⟨kd, ch, st, root, hC⟩, h⟩
  unfold O_count M_count
  by_cases c0 : x = 0
  · exact ⟨nI n, μ, by rw [if_pos c0, hC.1.1], by rw [if_pos c0, hM.1], h0, KM.rf⟩
  by_cases c1 : x = 1
  · exact ⟨nI c, μ, by rw [if_neg c0, if_pos c1, hC.1.2.2.2.1], by rw [if_neg c0, if_pos c1, hM.2.2.2.1], h0, KM.rf⟩
  by_cases c2 : x = 2
  · obtain ⟨μ', m1, m2, m3⟩ := takenMany_eq hM
    refine ⟨nI (pc10 (tkB n G c)), μ', ?_, ?_, keep μ' m2, m3.km⟩
    · rw [if_neg c0, if_neg c1, if_pos c2, hC.1.2.2.2.2.2.2.1, bc10 _ (tkB_lt hM.2.2.2.2.1)]
    · rw [if_neg c0, if_neg c1, if_pos c2]; exact ob m1 (lti rfl (lti rfl rfl))
  by_cases c3 : x = 3
  · obtain ⟨μ', m1, m2⟩ := nodesOf_eq hM hC.ct false
    refine ⟨nI (ndD ch 8 root).length, μ', ?_, ?_, keep μ' (m2.mi hM), m2.km⟩
    · rw [if_neg c0, if_neg c1, if_neg c2, if_pos c3]
      show some (σ 10 5) = _
      rw [hC.1.2.2.2.2.2.2.2.1.2.2.2.1]
    · rw [if_neg c0, if_neg c1, if_neg c2, if_pos c3]; exact ob m1 (lti rfl (lti rfl rfl))
  by_cases c4 : x = 4
  · obtain ⟨μ', m1, m2⟩ := nodesOf_eq hM hC.ct true
    refine ⟨nI ((ndD ch 8 root).filter kd).length, μ', ?_, ?_, keep μ' (m2.mi hM), m2.km⟩
    · rw [if_neg c0, if_neg c1, if_neg c2, if_neg c3, if_pos c4]
      exact ob (turning_eq hC.1.2.2.2.2.2.2.2.1) rfl
    · rw [if_neg c0, if_neg c1, if_neg c2, if_neg c3, if_pos c4]; exact ob m1 (lti rfl (lti rfl rfl))
  by_cases c5 : x = 5
  · obtain ⟨μ', m1, m2, m3⟩ := s_manyNow (σ := σ) hM
    refine ⟨nI (cnt n G (tkB n G c) 0), μ', ?_, ?_, keep μ' m2, m3.km⟩
    · rw [if_neg c0, if_neg c1, if_neg c2, if_neg c3, if_neg c4, if_pos c5]
      refine ob hC.count ?_
      rw [lN_i]
    · rw [if_neg c0, if_neg c1, if_neg c2, if_neg c3, if_neg c4, if_pos c5]; exact ob m1 (lti rfl (lti rfl rfl))
  by_cases c6 : x = 6
  · obtain ⟨μ', m1, m2⟩ := M_treeOf_len hM rfl hC.ct
    refine ⟨nI (txD kd ch 8 root).length, μ', ?_, ?_, keep μ' (m2.mi hM), m2.km⟩
    · rw [if_neg c0, if_neg c1, if_neg c2, if_neg c3, if_neg c4, if_neg c5, if_pos c6, hC.2.1]
    · rw [if_neg c0, if_neg c1, if_neg c2, if_neg c3, if_neg c4, if_neg c5, if_pos c6]; exact ob m1 (lti rfl (lti rfl rfl))
  by_cases c7 : x = 7
  · refine ⟨nI L, μ, ?_, ?_, h0, KM.rf⟩
    · rw [if_neg c0, if_neg c1, if_neg c2, if_neg c3, if_neg c4, if_neg c5, if_neg c6, if_pos c7, hT.1]
    · rw [if_neg c0, if_neg c1, if_neg c2, if_neg c3, if_neg c4, if_neg c5, if_neg c6, if_pos c7, hT.2.2.1]
  by_cases c8 : x = 8
  · refine ⟨μ 43 29, μ, ?_, ?_, h0, KM.rf⟩
    · rw [if_neg c0, if_neg c1, if_neg c2, if_neg c3, if_neg c4, if_neg c5, if_neg c6, if_neg c7, if_pos c8, hf]
    · rw [if_neg c0, if_neg c1, if_neg c2, if_neg c3, if_neg c4, if_neg c5, if_neg c6, if_neg c7, if_pos c8]
  · refine ⟨-2, μ, ?_, ?_, h0, KM.rf⟩
    · rw [if_neg c0, if_neg c1, if_neg c2, if_neg c3, if_neg c4, if_neg c5, if_neg c6, if_neg c7, if_neg c8]
    · rw [if_neg c0, if_neg c1, if_neg c2, if_neg c3, if_neg c4, if_neg c5, if_neg c6, if_neg c7, if_neg c8]
