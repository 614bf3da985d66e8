section
variable {σ0 μ0 σ μ : Mem}
theorem dg_7s (h : RK σ0 μ0 σ μ) {j : Nat} {x : Int32} (hj : j < 5) (hx : ¬ M_in x 0 40319 = 0) (hr : rds 1 (nI j) = some x) (z : Int64) : ∃ z' σ' μ', O_digest_b7 z (nI j) σ = some (.inl (z', nI (j + 1), σ')) ∧ M_rowDigest z x μ = some (z', μ') ∧ RK σ0 μ0 σ' μ' := by
  obtain ⟨z', σ', μ', h1, h2, h3⟩ := dg_6 h hx z
  refine ⟨z', σ', μ', ?_, h2, h3⟩
  unfold O_digest_b7
  refine ifn (show ¬ (5 : Int32) ≤ nI j from nI_ge (b := 5) hj (by omega)) ?_
  refine ob hr ?_
  refine ob h1 ?_
  exact lti rfl (lti rfl (lti (nI_1 _) rfl))
theorem dg_7 (h : RK σ0 μ0 σ μ) (z : Int64) : ∃ z1 μ1 z2 μ2 z3 μ3 z4 μ4 z5 μ5 σ5, lp (fun s => O_digest_b7 s.1 s.2.1 s.2.2) fuel (z, 0, σ) = some (z5, σ5) ∧ M_rowDigest z 0 μ = some (z1, μ1) ∧ M_rowDigest z1 1 μ1 = some (z2, μ2) ∧ M_rowDigest z2 2 μ2 = some (z3, μ3) ∧ M_rowDigest z3 5 μ3 = some (z4, μ4) ∧ M_rowDigest z4 100 μ4 = some (z5, μ5) ∧ RK σ0 μ0 σ5 μ5 := by
  obtain ⟨z1, σ1, μ1, a1, a2, a3⟩ := dg_7s h (j := 0) (x := 0) (by omega) (by decide +kernel) (by decide +kernel) z
  obtain ⟨z2, σ2, μ2, b1, b2, b3⟩ := dg_7s a3 (j := 1) (x := 1) (by omega) (by decide +kernel) (by decide +kernel) z1
  obtain ⟨z3, σ3, μ3, c1, c2, c3⟩ := dg_7s b3 (j := 2) (x := 2) (by omega) (by decide +kernel) (by decide +kernel) z2
  obtain ⟨z4, σ4, μ4, d1, d2, d3⟩ := dg_7s c3 (j := 3) (x := 5) (by omega) (by decide +kernel) (by decide +kernel) z3
  obtain ⟨z5, σ5, μ5, e1, e2, e3⟩ := dg_7s d3 (j := 4) (x := 100) (by omega) (by decide +kernel) (by decide +kernel) z4
  refine ⟨z1, μ1, z2, μ2, z3, μ3, z4, μ4, z5, μ5, σ5, ?_, a2, b2, c2, d2, e2, e3⟩
  refine lp_fu (n := 6) ?_ (by omega)
  rw [lp_step (s2 := (z1, nI 1, σ1)) a1, lp_step (s2 := (z2, nI 2, σ2)) b1, lp_step (s2 := (z3, nI 3, σ3)) c1, lp_step (s2 := (z4, nI 4, σ4)) d1, lp_step (s2 := (z5, nI 5, σ5)) e1]
  refine lp_stop ?_
  show O_digest_b7 z5 (nI 5) σ5 = _
  unfold O_digest_b7
  exact ifp (by decide) rfl
theorem dg_8s (h : RK σ0 μ0 σ μ) {j : Nat} {x : Int32} (hj : j < 6) (hr : rds 2 (nI j) = some x) (z : Int64) : ∃ z' σ' μ', O_digest_b8 z (nI j) σ = some (.inl (z', nI (j + 1), σ')) ∧ M_setDigest z x μ = some (z', μ') ∧ RK σ0 μ0 σ' μ' := by
  obtain ⟨a, σ1, μ1, a1, a2, a3, a4, a5⟩ := s_may h.1 x
  have hr1 := h.cm a3 a4 a5
  obtain ⟨b, σ2, μ2, b1, b2, b3, b4, b5⟩ := s_must hr1.1 x
  refine ⟨31 * (31 * z + a.toInt64) + b.toInt64, σ2, μ2, ?_, ?_, hr1.cm b3 b4 b5⟩
  · unfold O_digest_b8
    refine ifn (show ¬ (6 : Int32) ≤ nI j from nI_ge (b := 6) hj (by omega)) ?_
    refine ob hr ?_
    refine ob a1 ?_
    refine lti rfl ?_
    refine lti rfl ?_
    refine lti rfl ?_
    refine ob b1 ?_
    exact lti rfl (lti rfl (lti rfl (lti (nI_1 _) rfl)))
  · unfold M_setDigest
    refine ob a2 ?_
    refine lti rfl ?_
    refine lti rfl ?_
    refine lti rfl ?_
    refine ob b2 ?_
    exact lti rfl (lti rfl rfl)
theorem dg_8 (h : RK σ0 μ0 σ μ) (z : Int64) : ∃ z1 μ1 z2 μ2 z3 μ3 z4 μ4 z5 μ5 z6 μ6 σ6, lp (fun s => O_digest_b8 s.1 s.2.1 s.2.2) fuel (z, 0, σ) = some (z6, σ6) ∧ M_setDigest z 3 μ = some (z1, μ1) ∧ M_setDigest z1 6 μ1 = some (z2, μ2) ∧ M_setDigest z2 12 μ2 = some (z3, μ3) ∧ M_setDigest z3 5 μ3 = some (z4, μ4) ∧ M_setDigest z4 7 μ4 = some (z5, μ5) ∧ M_setDigest z5 14 μ5 = some (z6, μ6) ∧ RK σ0 μ0 σ6 μ6 := by
  obtain ⟨z1, σ1, μ1, a1, a2, a3⟩ := dg_8s h (j := 0) (x := 3) (by omega) (by decide +kernel) z
  obtain ⟨z2, σ2, μ2, b1, b2, b3⟩ := dg_8s a3 (j := 1) (x := 6) (by omega) (by decide +kernel) z1
  obtain ⟨z3, σ3, μ3, c1, c2, c3⟩ := dg_8s b3 (j := 2) (x := 12) (by omega) (by decide +kernel) z2
  obtain ⟨z4, σ4, μ4, d1, d2, d3⟩ := dg_8s c3 (j := 3) (x := 5) (by omega) (by decide +kernel) z3
  obtain ⟨z5, σ5, μ5, e1, e2, e3⟩ := dg_8s d3 (j := 4) (x := 7) (by omega) (by decide +kernel) z4
  obtain ⟨z6, σ6, μ6, f1, f2, f3⟩ := dg_8s e3 (j := 5) (x := 14) (by omega) (by decide +kernel) z5
  refine ⟨z1, μ1, z2, μ2, z3, μ3, z4, μ4, z5, μ5, z6, μ6, σ6, ?_, a2, b2, c2, d2, e2, f2, f3⟩
  refine lp_fu (n := 7) ?_ (by omega)
  rw [lp_step (s2 := (z1, nI 1, σ1)) a1, lp_step (s2 := (z2, nI 2, σ2)) b1, lp_step (s2 := (z3, nI 3, σ3)) c1, lp_step (s2 := (z4, nI 4, σ4)) d1, lp_step (s2 := (z5, nI 5, σ5)) e1, lp_step (s2 := (z6, nI 6, σ6)) f1]
  refine lp_stop ?_
  show O_digest_b8 z6 (nI 6) σ6 = _
  unfold O_digest_b8
  exact ifp (by decide) rfl
theorem dg_9 (h : RK σ0 μ0 σ μ) (x : Int32) (z : Int64) : ∃ z' μ', lp (fun s => O_digest_b9 σ x s.1 s.2) fuel (z, 0) = some z' ∧ lp (fun s => M_digest_b6 x s.1 s.2.1 s.2.2) fuel (z, 0, μ) = some (z', μ') ∧ RK σ0 μ0 σ μ' := by
  obtain ⟨r, r2, h1, h2, μ', h3, h4⟩ := lp_two (f := fun s => O_digest_b9 σ x s.1 s.2) (g := fun s => M_digest_b6 x s.1 s.2.1 s.2.2) 9 (fun j s t => ∃ y ν, s = (y, nI j) ∧ t = (y, nI j, ν) ∧ RK σ0 μ0 σ ν) (fun r r2 => ∃ ν, r2 = (r, ν) ∧ RK σ0 μ0 σ ν) (z, 0) (z, 0, μ) ⟨z, μ, rfl, rfl, h⟩ (by omega) (by
    rintro j s t hj ⟨y, ν, rfl, rfl, hr⟩
    obtain ⟨n, c, n8, c10, e1, e2, e3, e4⟩ := hr.1.nc
    by_cases q : n ≤ j
    · right
      refine ⟨y, (y, ν), ?_, ?_, ν, rfl, hr⟩
      · show O_digest_b9 σ x y (nI j) = _
        unfold O_digest_b9
        exact ifp (by rw [e1]; exact nI_le q (by omega)) rfl
      · show M_digest_b6 x y (nI j) ν = _
        unfold M_digest_b6
        exact ifp (by rw [e2]; exact nI_le q (by omega)) rfl
    · left
      obtain ⟨a, ν1, a1, a2, a3, a4⟩ := s_apart hr.1 x (nI j) 0
      have hr1 := hr.m a3 a4
      obtain ⟨b, ν2, b1, b2, b3, b4⟩ := s_apart hr1.1 x (nI j) 1
      refine ⟨(31 * (31 * y + a.toInt64) + b.toInt64, nI (j + 1)), (31 * (31 * y + a.toInt64) + b.toInt64, nI (j + 1), ν2), ?_, ?_, _, ν2, rfl, rfl, hr1.m b3 b4⟩
      · show O_digest_b9 σ x y (nI j) = _
        unfold O_digest_b9
        refine ifn (by rw [e1]; exact nI_ge (by omega) (by omega)) ?_
        refine ob a1 ?_
        refine lti rfl ?_
        refine ob b1 ?_
        exact lti rfl (lti (nI_1 _) rfl)
      · show M_digest_b6 x y (nI j) ν = _
        unfold M_digest_b6
        refine ifn (by rw [e2]; exact nI_ge (by omega) (by omega)) ?_
        refine ob a2 ?_
        refine lti rfl ?_
        refine lti rfl ?_
        refine lti rfl ?_
        refine ob b2 ?_
        exact lti rfl (lti rfl (lti rfl (lti (nI_1 _) rfl)))) (by
    rintro s t ⟨y, ν, rfl, rfl, hr⟩
    obtain ⟨n, c, n8, c10, e1, e2, e3, e4⟩ := hr.1.nc
    refine ⟨y, (y, ν), ?_, ?_, ν, rfl, hr⟩
    · show O_digest_b9 σ x y (nI 9) = _
      unfold O_digest_b9
      exact ifp (by rw [e1]; exact nI_le (by omega) (by omega)) rfl
    · show M_digest_b6 x y (nI 9) ν = _
      unfold M_digest_b6
      exact ifp (by rw [e2]; exact nI_le (by omega) (by omega)) rfl)
  subst h3
  exact ⟨r, μ', h1, h2, h4⟩
theorem dg_10 (h : RK σ0 μ0 σ μ) (z : Int64) : ∃ z' μ', lp (fun s => O_digest_b10 σ s.1 s.2) fuel (z, 0) = some z' ∧ lp (fun s => M_digest_b7 s.1 s.2.1 s.2.2) fuel (z, 0, μ) = some (z', μ') ∧ RK σ0 μ0 σ μ' := by
  obtain ⟨r, r2, h1, h2, μ', h3, h4⟩ := lp_two (f := fun s => O_digest_b10 σ s.1 s.2) (g := fun s => M_digest_b7 s.1 s.2.1 s.2.2) 9 (fun j s t => ∃ y ν, s = (y, nI j) ∧ t = (y, nI j, ν) ∧ RK σ0 μ0 σ ν) (fun r r2 => ∃ ν, r2 = (r, ν) ∧ RK σ0 μ0 σ ν) (z, 0) (z, 0, μ) ⟨z, μ, rfl, rfl, h⟩ (by omega) (by
    rintro j s t hj ⟨y, ν, rfl, rfl, hr⟩
    obtain ⟨n, c, n8, c10, e1, e2, e3, e4⟩ := hr.1.nc
    by_cases q : n ≤ j
    · right
      refine ⟨y, (y, ν), ?_, ?_, ν, rfl, hr⟩
      · show O_digest_b10 σ y (nI j) = _
        unfold O_digest_b10
        exact ifp (by rw [e1]; exact nI_le q (by omega)) rfl
      · show M_digest_b7 y (nI j) ν = _
        unfold M_digest_b7
        exact ifp (by rw [e2]; exact nI_le q (by omega)) rfl
    · left
      obtain ⟨y', ν', a1, a2, a3⟩ := dg_9 hr (nI j) y
      refine ⟨(y', nI (j + 1)), (y', nI (j + 1), ν'), ?_, ?_, _, ν', rfl, rfl, a3⟩
      · show O_digest_b10 σ y (nI j) = _
        unfold O_digest_b10
        refine ifn (by rw [e1]; exact nI_ge (by omega) (by omega)) ?_
        refine ob a1 ?_
        exact lti (nI_1 _) rfl
      · show M_digest_b7 y (nI j) ν = _
        unfold M_digest_b7
        refine ifn (by rw [e2]; exact nI_ge (by omega) (by omega)) ?_
        refine ob a2 ?_
        exact lti rfl (lti rfl (lti (nI_1 _) rfl))) (by
    rintro s t ⟨y, ν, rfl, rfl, hr⟩
    obtain ⟨n, c, n8, c10, e1, e2, e3, e4⟩ := hr.1.nc
    refine ⟨y, (y, ν), ?_, ?_, ν, rfl, hr⟩
    · show O_digest_b10 σ y (nI 9) = _
      unfold O_digest_b10
      exact ifp (by rw [e1]; exact nI_le (by omega) (by omega)) rfl
    · show M_digest_b7 y (nI 9) ν = _
      unfold M_digest_b7
      exact ifp (by rw [e2]; exact nI_le (by omega) (by omega)) rfl)
  subst h3
  exact ⟨r, μ', h1, h2, h4⟩
end
theorem Rel.rk {σ0 μ0 σ μ : Mem} (h : Rel σ0 μ0) (hr : RK σ0 μ0 σ μ) : Rel σ μ := ⟨hr.1, hr.tdx h.2.1, hr.fnd h.2.2.1, h.2.2.2.keep (fun k hk => hr.2.1.1 k (by omega)) (fun k hk => hr.2.2.1 k (by omega))⟩
theorem s_digest {σ μ : Mem} (h : Rel σ μ) : ∃ a σ' μ', O_digest σ = some (a, σ') ∧ M_digest μ = some (a, μ') ∧ Rel σ' μ' := by
  have ht := h.2.1
  have hf := h.2.2.1
  have r0 : RK σ μ σ μ := ⟨h.1, KC.rf, KM.rf⟩
  obtain ⟨z1, μ1, a1, a2, r1⟩ := dg_1 r0 ht hf 17
  obtain ⟨z2, σ2, μ2, b1, b2, r2⟩ := dg_2 r1 z1
  obtain ⟨y3, μ3, c1, c2, c3, c4⟩ := s_many r2.1
  have r3 := r2.m c3 c4
  obtain ⟨w, c5, c6⟩ : ∃ w : Int32, M_manyNow μ2 = some (w, μ3) ∧ w.toInt64 = y3 := by
    unfold M_many_ at c2
    obtain ⟨⟨w, ν⟩, q1, q2⟩ := obind c2
    have q2 : some (w.toInt64, ν) = some (y3, μ3) := q2
    rw [Option.some.injEq, Prod.mk.injEq] at q2
    exact ⟨w, by rw [q1, q2.2], q2.1⟩
  obtain ⟨z4, μ4, d1, d2, r4⟩ := dg_3 r3 (31 * z2 + y3)
  obtain ⟨z5, μ5, e1, e2, r5⟩ := dg_5 r4 z4
  obtain ⟨z6, ν6, z7, ν7, z8, ν8, z9, ν9, z10, ν10, σ3, f0, f1, f2, f3, f4, f5, r6⟩ := dg_7 r5 z5
  obtain ⟨y1, o1, y2, o2, y4, o4, y5, o5, y6, o6, y7, o7, σ4, g0, g1, g2, g3, g4, g5, g6, r7⟩ := dg_8 r6 z10
  obtain ⟨x1, μ8, h1, h2, r8⟩ := dg_10 r7 y7
  obtain ⟨s1, σ5, μ9, i1, i2, i3, i4, i5⟩ := s_spare r8.1
  have r9 := r8.cm i3 i4 i5
  unfold M_spare at i2
  rw [bid] at i2
  obtain ⟨s2, j1, j2⟩ := s_fault r9.1 (r9.tdx ht)
  unfold M_fault at j2
  rw [bid1] at j2
  obtain ⟨s3, σ6, k1, k2, k3, k4⟩ := s_misses r9.1 (r9.tdx ht)
  have r10 := r9.cm k3 k4 KM.rf
  obtain ⟨s4, σ7, μ10, l1, l2, l3, l4, l5⟩ := s_number r10.1 (r10.tdx ht)
  have r11 := r10.cm l3 l4 l5
  refine ⟨31 * (31 * (31 * (31 * x1 + s1.toInt64) + s2.toInt64) + s3.toInt64) + s4.toInt64, σ7, μ10, ?_, ?_, h.rk r11⟩
  · unfold O_digest
    refine lti rfl ?_
    refine ob a1 ?_
    refine ob b1 ?_
    refine lti rfl ?_
    refine lti rfl ?_
    refine ob c1 ?_
    refine lti rfl ?_
    refine ob d1 ?_
    refine ob e1 ?_
    refine ob f0 ?_
    refine lti rfl ?_
    refine lti rfl ?_
    refine ob g0 ?_
    refine lti rfl ?_
    refine lti rfl ?_
    refine ob h1 ?_
    refine ob i1 ?_
    refine lti rfl ?_
    refine lti rfl ?_
    refine lti rfl ?_
    refine ob j1 ?_
    refine lti rfl ?_
    refine ob k1 ?_
    refine lti rfl ?_
    refine lti rfl ?_
    refine lti rfl ?_
    refine ob l1 ?_
    refine lti rfl ?_
    exact lti rfl rfl
  · unfold M_digest
    refine lti rfl ?_
    refine ob a2 ?_
    refine lti rfl ?_
    refine lti rfl ?_
    refine ob b2 ?_
    refine lti rfl ?_
    refine lti rfl ?_
    refine ob c5 ?_
    refine lti rfl ?_
    refine lti rfl ?_
    refine lti (b := 31 * z2 + y3) (by rw [← c6]) ?_
    refine ob d2 ?_
    refine lti rfl ?_
    refine lti rfl ?_
    refine ob e2 ?_
    refine lti rfl ?_
    refine lti rfl ?_
    refine ob f1 ?_
    refine lti rfl ?_
    refine lti rfl ?_
    refine lti rfl ?_
    refine ob f2 ?_
    refine lti rfl ?_
    refine lti rfl ?_
    refine lti rfl ?_
    refine ob f3 ?_
    refine lti rfl ?_
    refine lti rfl ?_
    refine lti rfl ?_
    refine ob f4 ?_
    refine lti rfl ?_
    refine lti rfl ?_
    refine lti rfl ?_
    refine ob f5 ?_
    refine lti rfl ?_
    refine lti rfl ?_
    refine lti rfl ?_
    refine ob g1 ?_
    refine lti rfl ?_
    refine lti rfl ?_
    refine lti rfl ?_
    refine ob g2 ?_
    refine lti rfl ?_
    refine lti rfl ?_
    refine lti rfl ?_
    refine ob g3 ?_
    refine lti rfl ?_
    refine lti rfl ?_
    refine lti rfl ?_
    refine ob g4 ?_
    refine lti rfl ?_
    refine lti rfl ?_
    refine lti rfl ?_
    refine ob g5 ?_
    refine lti rfl ?_
    refine lti rfl ?_
    refine lti rfl ?_
    refine ob g6 ?_
    refine lti rfl ?_
    refine lti rfl ?_
    refine lti rfl ?_
    refine ob h2 ?_
    refine lti rfl ?_
    refine lti rfl ?_
    refine ob i2 ?_
    refine lti rfl ?_
    refine lti rfl ?_
    refine lti rfl ?_
    refine ob j2 ?_
    refine lti rfl ?_
    refine ob k2 ?_
    refine lti rfl ?_
    refine ob l2 ?_
    refine lti rfl ?_
    exact lti rfl rfl
