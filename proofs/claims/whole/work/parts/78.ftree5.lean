theorem rev_split {α β : Type} {g : α → List β} {R : List α} {x : α} : (R ++ [x]).reverse.flatMap g = g x ++ R.reverse.flatMap g := by
  rw [List.reverse_append]; simp
theorem FTI.len {σ0 σ : Mem} {kd : Nat → Bool} {ch : Nat → List Nat} {st : Nat → Nat} {D root : Nat} {T N : List Nat} {R : List (Nat ⊕ Nat)} (h : FTI σ0 σ kd ch st D root T N R) (hw : WfD kd ch st D root) : T.length + R.length ≤ 22 ∧ N.length ≤ 7 := by
  obtain ⟨h1, h2, h3, h4, h5, h6, h7, h8, h9, h10, h11⟩ := h
  have a := R_len (R := R.reverse) (fun x hx => h11 x (by simpa using hx))
  have b := congrArg List.length h9
  have c := congrArg List.length h10
  rw [List.length_append] at b c
  rw [List.length_reverse] at a
  obtain ⟨d, e⟩ := nd_lv D root hw
  have f := lv_le8 hw
  omega
theorem ft_node {σ0 σ : Mem} {kd : Nat → Bool} {ch : Nat → List Nat} {st : Nat → Nat} {D root n : Nat} {T L : List Nat} {R : List (Nat ⊕ Nat)} {N : Nat} (htc : TC σ0 kd ch st D root n) (h : FTI σ0 σ kd ch st D root T L (R ++ [.inl N])) (h8 : 8 ≤ N) (hcan : Can kd ch st N) : ∃ τ R2, M_findsTree_b2 (nI (R.length + 1)) σ = some (.inl (nI R2.length, τ)) ∧ FTI σ0 τ kd ch st D root (T ++ [opS (kd N)]) (L ++ [N]) R2 := by
  have hwr : WfD kd ch st D root := htc.2.1
  have hlen := FTI.len h hwr
  obtain ⟨h1, h2, h3, h4, h5, h6, h7, h8', h9, h10, h11⟩ := h
  have hok := (h11 (.inl N) (by simp)).1 N rfl
  obtain ⟨hwN, hst, hin⟩ := hok
  have hin := hin h8
  obtain ⟨x1, x2, x3⟩ := tx_node hwN h8
  rw [rev_split] at h9 h10
  have h9' : T ++ (opS (kd N) :: ((ch N).flatMap (txD kd ch D) ++ [clS (kd N)]) ++ R.reverse.flatMap (txT kd ch D)) = txD kd ch D root := by rw [← x1]; exact h9
  have h10' : L ++ (N :: (ch N).flatMap (ndD ch D) ++ R.reverse.flatMap (ndT ch D)) = ndD ch D root := by rw [← x2]; exact h10
  have hL : L.length < 7 := by
    have c := congrArg List.length h10'
    obtain ⟨d, -⟩ := nd_lv D root hwr
    have f := lv_le8 hwr
    simp at c
    omega
  rw [List.map_append] at h8'
  obtain ⟨p1, p2⟩ := SgAt.pop (T := R.map (enc st)) (x := st N) h8'
  rw [List.length_map] at p2
  have hR : R.length < 22 := by simp at hlen; omega
  have hT : T.length < 22 := by simp at hlen; omega
  obtain ⟨t1, t2, t3, t4, t5, t6, t7⟩ := TC_nd htc hin
  have hc8 : ∀ M ∈ L, (ch M).length ≤ 8 := fun M hM => by
    have hm : M ∈ ndD ch D root := by rw [← h10']; simp [hM]
    obtain ⟨-, -, -, -, u5, u6, u7⟩ := TC_nd htc hm
    exact len8 u7 u5 u6
  have hcN := len8 t7 t5 t6
  have hc2 : 2 ≤ (ch N).length := by
    cases D with
    | zero => exact absurd hwN (by simp [WfD])
    | succ E =>
      have hw2 := hwN
      unfold WfD at hw2
      rw [if_neg (by omega)] at hw2
      exact hw2.1
  -- the memories
  have f1 : mput σ 49 L.length (nI (st N)) 43 = σ 43 := mput_43 (by decide)
  generalize hσ1 : mput (mput σ 49 L.length (nI (st N))) 43 7 (nI (L.length + 1)) = σ1
  have g49 : σ1 49 = upd (σ 49) L.length (nI (st N)) := by rw [← hσ1, mput_ne 49 (by decide), mput_eq]
  have gk : ∀ k, k ≠ 43 → k ≠ 49 → σ1 k = σ k := fun k a b => by rw [← hσ1, mput_ne k a, mput_ne k b]
  have g7 : σ1 43 7 = nI (L.length + 1) := by rw [← hσ1, mput_at, if_pos ⟨rfl, rfl⟩]
  have g43 : ∀ i, i ≠ 7 → σ1 43 i = σ 43 i := fun i hi => by rw [← hσ1, mput_at, if_neg (fun h => hi h.2), f1]
  obtain ⟨p, q1, q2, q3⟩ := M_findsParts_eq (htc.same (τ2 := σ1) (by rw [gk 54 (by decide) (by decide)]; exact h3) (by rw [gk 48 (by decide) (by decide)]; exact h2)) hin hcan (at_ := L.length) (by omega) (by rw [g49, upd_at, if_pos rfl])
  generalize hσ2 : ms3 σ1 p (upd (σ1 51) L.length (nI (ch N).length)) (upd (σ1 50) L.length (if kd N = true then 1 else 0)) = σ2 at q1
  have k50 : σ2 50 = upd (σ 50) L.length (if kd N = true then 1 else 0) := by rw [← hσ2, ← gk 50 (by decide) (by decide)]; exact mset_eq
  have k51 : σ2 51 = upd (σ 51) L.length (nI (ch N).length) := by rw [← hσ2, ← gk 51 (by decide) (by decide)]; unfold ms3; rw [mset_ne (by decide), mset_eq]
  have k52 : σ2 52 = p := by rw [← hσ2]; unfold ms3; rw [mset_ne (by decide), mset_ne (by decide), mset_eq]
  have kk : ∀ k, k ≠ 50 → k ≠ 51 → k ≠ 52 → σ2 k = σ1 k := fun k a b c => by rw [← hσ2]; unfold ms3; rw [mset_ne a, mset_ne b, mset_ne c]
  obtain ⟨σ3, e1, e2, e3, e4, e5⟩ := M_shows_eq (σ := σ2) (T := T) (x := opS (kd N)) (by rw [kk 43 (by decide) (by decide) (by decide), g43 12 (by decide)]; exact h4) (by omega) (by rw [kk 53 (by decide) (by decide) (by decide), gk 53 (by decide) (by decide)]; exact h5)
  have hS55 : SgAt (mput σ3 55 R.length (nI (1000 + clS (kd N))) 55) ((R ++ [(Sum.inr (clS (kd N)) : Nat ⊕ Nat)]).map (enc st)) := by
    rw [mput_eq, e5 55 (by decide) (by decide), kk 55 (by decide) (by decide) (by decide), gk 55 (by decide) (by decide), List.map_append]
    have := SgAt.push (x := 1000 + clS (kd N)) p1
    rw [List.length_map] at this
    exact this
  have hP52 : mput σ3 55 R.length (nI (1000 + clS (kd N))) 52 = p := by rw [mput_ne 52 (by decide), e5 52 (by decide) (by decide), k52]
  obtain ⟨f, l1, l2⟩ := push_parts (σ := mput σ3 55 R.length (nI (1000 + clS (kd N)))) (st := st) (at_ := L.length) (by omega) (C := ch N) (by omega) hcN (by rw [hP52]; exact q2) (R := (R ++ [(Sum.inr (clS (kd N)) : Nat ⊕ Nat)]).map (enc st)) (by simp; omega) hS55
  have hl1 : ((R ++ [(Sum.inr (clS (kd N)) : Nat ⊕ Nat)]).map (enc st)).length = R.length + 1 := by simp
  rw [hl1] at l1
  have hop : nI (R.length + 1 + (ch N).length) = nI (R ++ [(Sum.inr (clS (kd N)) : Nat ⊕ Nat)] ++ (ch N).reverse.map (fun c => (Sum.inl c : Nat ⊕ Nat))).length := by congr 1; simp; omega
  refine ⟨mset (mput σ3 55 R.length (nI (1000 + clS (kd N)))) 55 f, R ++ [(Sum.inr (clS (kd N)) : Nat ⊕ Nat)] ++ (ch N).reverse.map (fun c => (Sum.inl c : Nat ⊕ Nat)), ?_, ?_⟩
  · rw [← hop]
    refine ft_step (σ1 := σ1) (σ2 := σ2) (σ3 := σ3) (m := st N) (k := L.length) (len := (ch N).length) (b := kd N) (by omega) hst (by omega) p2 (many_two hwN h8 hst) h6 hσ1 q1 (by rw [k50, upd_at, if_pos rfl]) e1 (by rw [e5 50 (by decide) (by decide), k50, upd_at, if_pos rfl]) (by rw [e5 51 (by decide) (by decide), k51, upd_at, if_pos rfl]) (by omega) l1
  · generalize hτ : mset (mput σ3 55 R.length (nI (1000 + clS (kd N)))) 55 f = τ
    have u55 : τ 55 = f := by rw [← hτ, mset_eq]
    have uk : ∀ k, k ≠ 55 → τ k = σ3 k := fun k hk => by rw [← hτ, mset_ne hk, mput_ne k hk]
    have uA : ∀ k, k ≠ 43 → k ≠ 49 → k ≠ 50 → k ≠ 51 → k ≠ 52 → k ≠ 53 → k ≠ 55 → τ k = σ k := fun k a b c d e f g => by rw [uk k g, e5 k a f, kk k c d e, gk k a b]
    have u43 : ∀ i, i ≠ 12 → i ≠ 7 → τ 43 i = σ 43 i := fun i a b => by rw [uk 43 (by decide), e4 i a, kk 43 (by decide) (by decide) (by decide), g43 i b]
    refine ⟨h1.tr (PubM.of (fun i hi => u43 i (by omega) (by omega)) (fun k hk => uA k (by omega) (by omega) (by omega) (by omega) (by omega) (by omega) (by omega))), ?_, ?_, ?_, ?_, ?_, ?_, ?_, ?_, ?_, ?_⟩
    · rw [uA 48 (by decide) (by decide) (by decide) (by decide) (by decide) (by decide) (by decide)]; exact h2
    · rw [uA 54 (by decide) (by decide) (by decide) (by decide) (by decide) (by decide) (by decide)]; exact h3
    · rw [uk 43 (by decide)]; exact e2
    · rw [uk 53 (by decide)]; exact e3
    · rw [uk 43 (by decide), e4 7 (by decide), kk 43 (by decide) (by decide) (by decide), g7]; simp
    · exact NdA.push h7 (p := p) (by rw [uk 49 (by decide), e5 49 (by decide) (by decide), kk 49 (by decide) (by decide) (by decide), g49]) (by rw [uk 50 (by decide), e5 50 (by decide) (by decide), k50]) (by rw [uk 51 (by decide), e5 51 (by decide) (by decide), k51]) (by rw [uk 52 (by decide), e5 52 (by decide) (by decide), k52]) q2 (fun q hq => by rw [q3 q hq, gk 52 (by decide) (by decide)]) hc8
    · rw [u55, List.map_append]
      have : List.map (enc st) (List.map (fun c => (Sum.inl c : Nat ⊕ Nat)) (ch N).reverse) = List.map st (ch N).reverse := by rw [List.map_map]; rfl
      rw [this]; exact l2
    · rw [← h9']
      have : (ch N).flatMap (txD kd ch D) = ((ch N).map (fun c => (Sum.inl c : Nat ⊕ Nat))).flatMap (txT kd ch D) := by rw [List.flatMap_map]; rfl
      rw [this]
      simp [txT]
    · rw [← h10']
      have : (ch N).flatMap (ndD ch D) = ((ch N).map (fun c => (Sum.inl c : Nat ⊕ Nat))).flatMap (ndT ch D) := by rw [List.flatMap_map]; rfl
      rw [this]
      simp [ndT]
    · intro x hx
      rw [List.mem_append, List.mem_append] at hx
      rcases hx with (hx | hx) | hx
      · exact h11 x (by simp [hx])
      · rw [List.mem_singleton] at hx
        subst hx
        refine ⟨fun id h => (by cases h), fun s h => ?_⟩
        cases h
        unfold clS; split <;> omega
      · obtain ⟨c, hc, rfl⟩ := List.mem_map.mp hx
        have hc := List.mem_reverse.mp hc
        refine ⟨fun id h => ?_, fun s h => (by cases h)⟩
        cases h
        exact ⟨x3 c hc, (t4 c hc).1, fun h8c => nd_child D root hwr N hin c hc h8c⟩
