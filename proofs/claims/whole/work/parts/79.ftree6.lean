theorem ft_stepS {σ τ : Mem} {r s : Nat} (hr : r < 64) (hs : s < 200) (p2 : σ 55 r = nI (1000 + s)) (e1 : M_shows (nI s) σ = some τ) : M_findsTree_b2 (nI (r + 1)) σ = some (.inl (nI r, τ)) := by
  have d1 : nI (r + 1) + (-1) = nI r := by rw [curr_dec (by omega), Nat.add_sub_cancel]
  have d2 : rd σ 55 (nI r) = some (nI (1000 + s)) := by rw [rd_nI (by show _ < 64; omega) (by decide), p2]
  have c1 : ¬ nI (1000 + s) < 1000 := by rw [L_1000]; exact Int32.not_lt.mpr (nI_le (by omega) (by omega))
  have d3 : nI (1000 + s) - 1000 = nI s := by rw [L_1000, Nat.add_comm, ← nI_add, Int32.add_sub_cancel]
  have d4 : M_shows (nI (1000 + s) - 1000) σ = some τ := by rw [d3]; exact e1
  unfold M_findsTree_b2
  refine ifn (zz_pos hr) ?_
  refine lti d1 ?_
  refine ob d2 ?_
  refine ob (a := (nI r, τ)) ?_ rfl
  refine ifn c1 ?_
  refine ob d4 ?_
  rfl
theorem ft_stepT {σ τ : Mem} {r c : Nat} (hr : r < 64) (hc : c < 8) (p2 : σ 55 r = nI (2 ^ c)) (e1 : M_shows (nI (97 + c)) σ = some τ) : M_findsTree_b2 (nI (r + 1)) σ = some (.inl (nI r, τ)) := by
  obtain ⟨a1, a2, a3⟩ := lst_pow c hc
  have d1 : nI (r + 1) + (-1) = nI r := by rw [curr_dec (by omega), Nat.add_sub_cancel]
  have d2 : rd σ 55 (nI r) = some (nI (2 ^ c)) := by rw [rd_nI (by show _ < 64; omega) (by decide), p2]
  have c2 : nI (pc8 (2 ^ c)) = 1 := by rw [L_1, (many_one _ a2).mpr ⟨c, hc, rfl⟩]
  have d3 : M_least (nI (2 ^ c)) = some (nI c) := by rw [M_least_eq a2 a3, a1]
  have d4 : M_shows (97 + nI c) σ = some τ := by rw [L_97, nI_add]; exact e1
  unfold M_findsTree_b2
  refine ifn (zz_pos hr) ?_
  refine lti d1 ?_
  refine ob d2 ?_
  refine ob (a := (nI r, τ)) ?_ rfl
  refine ifp (zz_th a2) ?_
  refine ob (M_many_eq a2) ?_
  refine ifp c2 ?_
  refine ob d3 ?_
  refine ob d4 ?_
  rfl
