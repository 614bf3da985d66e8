theorem M_nodeFor_at {σ : Mem} {n : Nat} {G : Nat → Nat} {c : Nat} (h : MI σ n G c) {L : List Nat} (hL : L = (List.range 11).map (nget G (tkB n G c) 0)) {kd : Nat → Bool} {ch : Nat → List Nat} {st : Nat → Nat} {D root : Nat} (hC : CT n L kd ch st D root) {j : Nat} (hj : j < 2 ^ 31) (x : Int32) : ∃ τ, M_nodeFor (nI j) x σ = some ((if j < (ndD ch D root).length then (if x = 0 then (if kd ((ndD ch D root).getD j 0) = true then 1 else 0) else if x = 1 then nI (ch ((ndD ch D root).getD j 0)).length else nI (st ((ndD ch D root).getD j 0))) else -1), τ) ∧ PubM σ τ := by
  obtain ⟨b1, b2, τ, e, p, q1, q2, q3, q4⟩ := findsTree_CT h hL hC
  refine ⟨τ, ?_, p⟩
  unfold M_nodeFor
  refine ob e ?_
  refine ob (a := if j < (ndD ch D root).length then (if x = 0 then (if kd ((ndD ch D root).getD j 0) = true then 1 else 0) else if x = 1 then nI (ch ((ndD ch D root).getD j 0)).length else nI (st ((ndD ch D root).getD j 0))) else -1) ?_ rfl
  rw [q3]
  by_cases c : j < (ndD ch D root).length
  · have c1 : nI j < nI (ndD ch D root).length := nI_lt c (by omega)
    obtain ⟨a1, a2, a3, a4⟩ := q4 j c
    have r1 : rd τ 50 (nI j) = some (if kd ((ndD ch D root).getD j 0) = true then 1 else 0) := by rw [rd_nI (by show _ < 8; omega) (by decide), a2]
    have r2 : rd τ 51 (nI j) = some (nI (ch ((ndD ch D root).getD j 0)).length) := by rw [rd_nI (by show _ < 8; omega) (by decide), a3]
    have r3 : rd τ 49 (nI j) = some (nI (st ((ndD ch D root).getD j 0))) := by rw [rd_nI (by show _ < 8; omega) (by decide), a1]
    refine ifp c1 ?_
    rw [if_pos c]
    by_cases d : x = 0
    · refine ifp d ?_
      rw [if_pos d]
      exact ob r1 rfl
    · refine ifn d ?_
      rw [if_neg d]
      by_cases d2 : x = 1
      · refine ifp d2 ?_
        rw [if_pos d2]
        exact ob r2 rfl
      · refine ifn d2 ?_
        rw [if_neg d2]
        exact ob r3 rfl
  · have c1 : ¬ nI j < nI (ndD ch D root).length := Int32.not_lt.mpr (nI_le (by omega) hj)
    refine ifn c1 ?_
    rw [if_neg c]
