theorem xI_mul (a b : Nat) : nI a * nI b = nI (a * b) := by
  apply xI_ext
  rw [Int32.toBitVec_mul, xI_bv, xI_bv, xI_bv, BitVec.ofNat_mul]
theorem M_factorial_eq {k : Nat} (hk : k ≤ 8) (h1 : 1 ≤ k) : M_factorial (nI k) = some (nI (fac k)) := by
  have key : ∃ r, lp (fun s => M_factorial_b1 (nI k) s.1 s.2) fuel ((1 : Int32), (2 : Int32)) = some r ∧ r = nI (fac k) := by
    refine lp_for (k + 1) (fun j s => 2 ≤ j ∧ s = (nI (fac (j - 1)), nI j)) _ _ 2 (by omega) ⟨by omega, rfl⟩ (by omega) ?_ ?_
    · rintro j s hj ⟨h2, rfl⟩
      left
      have c0 : ¬ nI k < nI j := Int32.not_lt.mpr (nI_le (by omega) (by omega))
      refine ⟨(nI (fac j), nI (j + 1)), ?_, by omega, rfl⟩
      show M_factorial_b1 (nI k) (nI (fac (j - 1))) (nI j) = _
      have e : nI (fac (j - 1)) * nI j = nI (fac j) := by
        rw [xI_mul]
        congr 1
        obtain ⟨i, rfl⟩ : ∃ i, j = i + 1 := ⟨j - 1, by omega⟩
        show fac i * (i + 1) = fac (i + 1)
        rw [show fac (i + 1) = (i + 1) * fac i from rfl, Nat.mul_comm]
      unfold M_factorial_b1
      refine ifn c0 ?_
      refine lti e ?_
      refine lti (nI_1 j) ?_
      rfl
    · rintro s ⟨h2, rfl⟩
      refine ⟨nI (fac k), ?_, rfl⟩
      show M_factorial_b1 (nI k) (nI (fac (k + 1 - 1))) (nI (k + 1)) = _
      unfold M_factorial_b1
      exact ifp (nI_lt (by omega) (by omega)) rfl
  obtain ⟨r, e, rfl⟩ := key
  unfold M_factorial
  exact ob e rfl
