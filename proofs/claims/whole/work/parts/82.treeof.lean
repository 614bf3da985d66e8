def CT (n : Nat) (L : List Nat) (kd : Nat → Bool) (ch : Nat → List Nat) (st : Nat → Nat) (D root : Nat) : Prop := WfD kd ch st D root ∧ st root = fullM n ∧ (∀ N ∈ ndD ch D root, Can kd ch st N) ∧ ∀ r, Fr kd ch root r ↔ Rw n L r
def TXI (σ τ : Mem) (kd : Nat → Bool) (ch : Nat → List Nat) (st : Nat → Nat) (D root : Nat) : Prop := PubM σ τ ∧ τ 43 12 = nI (txD kd ch D root).length ∧ SgAt (τ 53) (txD kd ch D root) ∧ τ 43 7 = nI (ndD ch D root).length ∧ NdA τ kd ch st (ndD ch D root)
theorem findsTree_CT {σ : Mem} {n : Nat} {G : Nat → Nat} {c : Nat} (h : MI σ n G c) {L : List Nat} (hL : L = (List.range 11).map (nget G (tkB n G c) 0)) {kd : Nat → Bool} {ch : Nat → List Nat} {st : Nat → Nat} {D root : Nat} (hC : CT n L kd ch st D root) : (txD kd ch D root).length ≤ 22 ∧ (ndD ch D root).length ≤ 7 ∧ ∃ τ, M_findsTree σ = some τ ∧ TXI σ τ kd ch st D root := by
  obtain ⟨h1, h2, h3, h4⟩ := hC
  obtain ⟨d, e⟩ := nd_lv D root h1
  have f := lv_le8 h1
  refine ⟨by omega, by omega, ?_⟩
  exact M_findsTree_eq h hL h1 h2 h3 (fun h8 => by rw [(tx_node h1 h8).2.1]; simp) h4
theorem nI_nm1 {j : Nat} (hj : j < 2 ^ 31) : ¬ nI j = -1 := fun e => nI_pos hj (by rw [e]; decide)
theorem M_treeOf_len {σ : Mem} {n : Nat} {G : Nat → Nat} {c : Nat} (h : MI σ n G c) {L : List Nat} (hL : L = (List.range 11).map (nget G (tkB n G c) 0)) {kd : Nat → Bool} {ch : Nat → List Nat} {st : Nat → Nat} {D root : Nat} (hC : CT n L kd ch st D root) : ∃ τ, M_treeOf (-1) σ = some (nI (txD kd ch D root).length, τ) ∧ PubM σ τ := by
  obtain ⟨b1, b2, τ, e, p, q1, q2, q3, q4⟩ := findsTree_CT h hL hC
  refine ⟨τ, ?_, p⟩
  unfold M_treeOf
  refine ob e ?_
  refine ob (a := nI (txD kd ch D root).length) ?_ rfl
  exact ifp rfl (by rw [q1])
theorem M_treeOf_at {σ : Mem} {n : Nat} {G : Nat → Nat} {c : Nat} (h : MI σ n G c) {L : List Nat} (hL : L = (List.range 11).map (nget G (tkB n G c) 0)) {kd : Nat → Bool} {ch : Nat → List Nat} {st : Nat → Nat} {D root : Nat} (hC : CT n L kd ch st D root) {j : Nat} (hj : j < 2 ^ 31) : ∃ τ, M_treeOf (nI j) σ = some ((if j < (txD kd ch D root).length then nI ((txD kd ch D root).getD j 0) else -1), τ) ∧ PubM σ τ := by
  obtain ⟨b1, b2, τ, e, p, q1, q2, q3, q4⟩ := findsTree_CT h hL hC
  refine ⟨τ, ?_, p⟩
  unfold M_treeOf
  refine ob e ?_
  refine ob (a := if j < (txD kd ch D root).length then nI ((txD kd ch D root).getD j 0) else -1) ?_ rfl
  refine ifn (nI_nm1 hj) ?_
  rw [q1]
  by_cases c : j < (txD kd ch D root).length
  · have c1 : ¬ nI (txD kd ch D root).length ≤ nI j := Int32.not_le.mpr (nI_lt c (by omega))
    refine ifn c1 ?_
    rw [if_pos c]
    refine ob (a := nI ((txD kd ch D root).getD j 0)) ?_ rfl
    rw [rd_nI (by show _ < 40; omega) (by decide), q2 j c]
  · have c1 : nI (txD kd ch D root).length ≤ nI j := nI_le (by omega) hj
    refine ifp c1 ?_
    rw [if_neg c]
