theorem M_waysAt_eq {τ : Mem} {kd : Nat → Bool} {ch : Nat → List Nat} {st : Nat → Nat} {L : List Nat} (hA : NdA τ kd ch st L) {j : Nat} (hj : j < L.length) (hL : L.length ≤ 7) (h1 : 1 ≤ (ch (L.getD j 0)).length) (h8 : (ch (L.getD j 0)).length ≤ 8) : M_waysAt (nI j) τ = some (nI (wys (kd (L.getD j 0)) (ch (L.getD j 0)).length)) := by
  obtain ⟨-, a2, a3, -⟩ := hA j hj
  have r1 : rd τ 50 (nI j) = some (if kd (L.getD j 0) = true then 1 else 0) := by rw [rd_nI (by show _ < 8; omega) (by decide), a2]
  have r2 : rd τ 51 (nI j) = some (nI (ch (L.getD j 0)).length) := by rw [rd_nI (by show _ < 8; omega) (by decide), a3]
  unfold M_waysAt
  refine ob r1 ?_
  refine ob (a := nI (wys (kd (L.getD j 0)) (ch (L.getD j 0)).length)) ?_ rfl
  unfold wys
  by_cases c : kd (L.getD j 0) = true
  · refine ifp (zz_one.mpr c) ?_
    rw [if_pos c]; rfl
  · refine ifn (fun e => c (zz_one.mp e)) ?_
    rw [if_neg c]
    refine ob r2 ?_
    exact ob (M_factorial_eq h8 h1) rfl
