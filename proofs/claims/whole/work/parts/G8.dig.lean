/- two loops side by side -/
theorem lp_two0 {S R S2 R2 : Type} {f : S → Option (S ⊕ R)} {g : S2 → Option (S2 ⊕ R2)} (N : Nat) (I : Nat → S → S2 → Prop) (Q : R → R2 → Prop) (hstep : ∀ j s t, j < N → I j s t → (∃ s' t', f s = some (.inl s') ∧ g t = some (.inl t') ∧ I (j + 1) s' t') ∨ (∃ r r2, f s = some (.inr r) ∧ g t = some (.inr r2) ∧ Q r r2)) (hend : ∀ s t, I N s t → ∃ r r2, f s = some (.inr r) ∧ g t = some (.inr r2) ∧ Q r r2) : ∀ (k j : Nat) (s : S) (t : S2), j + k = N → I j s t → ∃ r r2, lp f (k + 1) s = some r ∧ lp g (k + 1) t = some r2 ∧ Q r r2
  | 0, j, s, t, e, h => by
    have e : j = N := by omega
    subst e
    obtain ⟨r, r2, h1, h2, h3⟩ := hend s t h
    exact ⟨r, r2, lp_stop h1, lp_stop h2, h3⟩
  | k + 1, j, s, t, e, h => by
    rcases hstep j s t (by omega) h with ⟨s', t', h1, h2, h3⟩ | ⟨r, r2, h1, h2, h3⟩
    · obtain ⟨r, r2, q1, q2, q3⟩ := lp_two0 N I Q hstep hend k (j + 1) s' t' (by omega) h3
      refine ⟨r, r2, ?_, ?_, q3⟩
      · show (f s).bind _ = _
        rw [h1]; exact q1
      · show (g t).bind _ = _
        rw [h2]; exact q2
    · exact ⟨r, r2, lp_mono f 1 _ s r (by omega) (lp_stop h1), lp_mono g 1 _ t r2 (by omega) (lp_stop h2), h3⟩
theorem lp_two {S R S2 R2 : Type} {f : S → Option (S ⊕ R)} {g : S2 → Option (S2 ⊕ R2)} (N : Nat) (I : Nat → S → S2 → Prop) (Q : R → R2 → Prop) (s : S) (t : S2) (hs : I 0 s t) (hN : N < 1000) (hstep : ∀ j s t, j < N → I j s t → (∃ s' t', f s = some (.inl s') ∧ g t = some (.inl t') ∧ I (j + 1) s' t') ∨ (∃ r r2, f s = some (.inr r) ∧ g t = some (.inr r2) ∧ Q r r2)) (hend : ∀ s t, I N s t → ∃ r r2, f s = some (.inr r) ∧ g t = some (.inr r2) ∧ Q r r2) : ∃ r r2, lp f fuel s = some r ∧ lp g fuel t = some r2 ∧ Q r r2 := by
  obtain ⟨r, r2, h1, h2, h3⟩ := lp_two0 N I Q hstep hend N 0 s t (by omega) hs
  exact ⟨r, r2, lp_fu h1 (by omega), lp_fu h2 (by omega), h3⟩
theorem bid {α β : Type} (o : Option (α × β)) : o.bind (fun q => lt q.1 (fun a => lt q.2 (fun s => some (a, s)))) = o := by cases o <;> rfl
theorem bid1 {α : Type} (o : Option α) : o.bind (fun a => some a) = o := by cases o <;> rfl
def RK (σ0 μ0 σ μ : Mem) : Prop := CMx σ μ ∧ KC σ0 σ ∧ KM μ0 μ
section
variable {σ0 μ0 σ μ : Mem}
theorem RK.tdx (h : RK σ0 μ0 σ μ) (ht : Tdx σ0 μ0) : Tdx σ μ := by
  obtain ⟨L, T, hT⟩ := ht
  exact ⟨L, T, hT.keep h.2.1 h.2.2⟩
theorem RK.fnd (h : RK σ0 μ0 σ μ) (ht : Fnd σ0 μ0) : Fnd σ μ := by
  have ht : σ0 0 6 = μ0 43 29 := ht
  show σ 0 6 = μ 43 29
  rw [h.2.1.2.2, h.2.2.2.2, ht]
theorem CMx.nc (h : CMx σ μ) : ∃ n c, n ≤ 8 ∧ c ≤ 10 ∧ σ 0 0 = nI n ∧ μ 43 0 = nI n ∧ σ 0 2 = nI c ∧ μ 43 1 = nI c := by
  obtain ⟨n, G, c, ⟨kd, ch, st, root, hC⟩, hM⟩ := h
  exact ⟨n, c, hC.1.2.2.1, hC.1.2.2.2.2.1, hC.1.1, hM.1, hC.1.2.2.2.1, hM.2.2.2.1⟩
theorem RK.m (h : RK σ0 μ0 σ μ) {ν : Mem} (h1 : CMx σ ν) (h2 : KM μ ν) : RK σ0 μ0 σ ν := ⟨h1, h.2.1, h.2.2.tr h2⟩
theorem RK.cm (h : RK σ0 μ0 σ μ) {τ ν : Mem} (h1 : CMx τ ν) (h3 : KC σ τ) (h2 : KM μ ν) : RK σ0 μ0 τ ν := ⟨h1, h.2.1.tr h3, h.2.2.tr h2⟩
/- the counts -/
theorem dg_1 (h : RK σ0 μ0 σ μ) (ht : Tdx σ0 μ0) (hf : Fnd σ0 μ0) (z : Int64) : ∃ z' μ', lp (fun s => O_digest_b1 σ s.1 s.2) fuel (z, 0) = some z' ∧ lp (fun s => M_digest_b1 s.1 s.2.1 s.2.2) fuel (z, 0, μ) = some (z', μ') ∧ RK σ0 μ0 σ μ' := by
  obtain ⟨r, r2, h1, h2, μ', h3, h4⟩ := lp_two (f := fun s => O_digest_b1 σ s.1 s.2) (g := fun s => M_digest_b1 s.1 s.2.1 s.2.2) 8 (fun j s t => ∃ y ν, s = (y, nI j) ∧ t = (y, nI j, ν) ∧ RK σ0 μ0 σ ν) (fun r r2 => ∃ ν, r2 = (r, ν) ∧ RK σ0 μ0 σ ν) (z, 0) (z, 0, μ) ⟨z, μ, rfl, rfl, h⟩ (by omega) (by
    rintro j s t hj ⟨y, ν, rfl, rfl, hr⟩
    left
    obtain ⟨a, ν', c1, c2, c3, c4⟩ := s_count hr.1 (hr.tdx ht) (hr.fnd hf) (nI j)
    refine ⟨(31 * y + a.toInt64, nI (j + 1)), (31 * y + a.toInt64, nI (j + 1), ν'), ?_, ?_, _, ν', rfl, rfl, hr.m c3 c4⟩
    · show O_digest_b1 σ y (nI j) = _
      unfold O_digest_b1
      refine ifn (show ¬ (7 : Int32) < nI j from nI_nlt (a := 7) (by omega) (by omega)) ?_
      refine ob c1 ?_
      exact lti rfl (lti (nI_1 _) rfl)
    · show M_digest_b1 y (nI j) ν = _
      unfold M_digest_b1
      refine ifn (show ¬ (8 : Int32) ≤ nI j from nI_ge (b := 8) hj (by omega)) ?_
      refine ob c2 ?_
      exact lti rfl (lti rfl (lti rfl (lti (nI_1 _) rfl)))) (by
    rintro s t ⟨y, ν, rfl, rfl, hr⟩
    refine ⟨y, (y, ν), ?_, ?_, ν, rfl, hr⟩
    · show O_digest_b1 σ y (nI 8) = _
      unfold O_digest_b1
      exact ifp (by decide) rfl
    · show M_digest_b1 y (nI 8) ν = _
      unfold M_digest_b1
      exact ifp (by decide) rfl)
  subst h3
  exact ⟨r, μ', h1, h2, h4⟩
/- taken and reason -/
theorem dg_2 (h : RK σ0 μ0 σ μ) (z : Int64) : ∃ z' σ' μ', lp (fun s => O_digest_b2 s.1 s.2.1 s.2.2) fuel (z, 0, σ) = some (z', σ') ∧ lp (fun s => M_digest_b2 s.1 s.2.1 s.2.2) fuel (z, 0, μ) = some (z', μ') ∧ RK σ0 μ0 σ' μ' := by
  obtain ⟨r, r2, h1, h2, z', σ', μ', rfl, rfl, h4⟩ := lp_two (f := fun s => O_digest_b2 s.1 s.2.1 s.2.2) (g := fun s => M_digest_b2 s.1 s.2.1 s.2.2) 11 (fun j s t => ∃ y τ ν, s = (y, nI j, τ) ∧ t = (y, nI j, ν) ∧ RK σ0 μ0 τ ν) (fun r r2 => ∃ y τ ν, r = (y, τ) ∧ r2 = (y, ν) ∧ RK σ0 μ0 τ ν) (z, 0, σ) (z, 0, μ) ⟨z, σ, μ, rfl, rfl, h⟩ (by omega) (by
    rintro j s t hj ⟨y, τ, ν, rfl, rfl, hr⟩
    obtain ⟨n, c, n8, c10, e1, e2, e3, e4⟩ := hr.1.nc
    by_cases q : c ≤ j
    · right
      refine ⟨(y, τ), (y, ν), ?_, ?_, y, τ, ν, rfl, rfl, hr⟩
      · show O_digest_b2 y (nI j) τ = _
        unfold O_digest_b2
        exact ifp (by rw [e3]; exact nI_le q (by omega)) rfl
      · show M_digest_b2 y (nI j) ν = _
        unfold M_digest_b2
        exact ifp (by rw [e4]; exact nI_le q (by omega)) rfl
    · left
      obtain ⟨a, ν', c1, c2, c3, c4⟩ := s_taken hr.1 (nI j)
      have hr2 := hr.m c3 c4
      obtain ⟨b, τ', ν2, d1, d2, d3, d4, d5⟩ := s_reason hr2.1 (nI j)
      refine ⟨(31 * (31 * y + a.toInt64) + b.toInt64, nI (j + 1), τ'), (31 * (31 * y + a.toInt64) + b.toInt64, nI (j + 1), ν2), ?_, ?_, _, τ', ν2, rfl, rfl, hr2.cm d3 d4 d5⟩
      · show O_digest_b2 y (nI j) τ = _
        unfold O_digest_b2
        refine ifn (by rw [e3]; exact nI_ge (by omega) (by omega)) ?_
        rw [c1]
        refine lti rfl ?_
        refine ob d1 ?_
        exact lti rfl (lti rfl (lti rfl (lti (nI_1 _) rfl)))
      · show M_digest_b2 y (nI j) ν = _
        unfold M_digest_b2
        refine ifn (by rw [e4]; exact nI_ge (by omega) (by omega)) ?_
        refine ob c2 ?_
        refine lti rfl ?_
        refine lti rfl ?_
        refine lti rfl ?_
        refine ob d2 ?_
        exact lti rfl (lti rfl (lti rfl (lti (nI_1 _) rfl)))) (by
    rintro s t ⟨y, τ, ν, rfl, rfl, hr⟩
    obtain ⟨n, c, n8, c10, e1, e2, e3, e4⟩ := hr.1.nc
    refine ⟨(y, τ), (y, ν), ?_, ?_, y, τ, ν, rfl, rfl, hr⟩
    · show O_digest_b2 y (nI 11) τ = _
      unfold O_digest_b2
      exact ifp (by rw [e3]; exact nI_le (by omega) (by omega)) rfl
    · show M_digest_b2 y (nI 11) ν = _
      unfold M_digest_b2
      exact ifp (by rw [e4]; exact nI_le (by omega) (by omega)) rfl)
  exact ⟨z', σ', μ', h1, h2, h4⟩
theorem ix40 : ∀ j, j < 41 → ¬ M_in (nI j - 1) (-1) 39 = 0 ∧ ¬ (40 : Int32) ≤ nI j - 1 := by decide +kernel
/- the text -/
theorem dg_3 (h : RK σ0 μ0 σ μ) (z : Int64) : ∃ z' μ', lp (fun s => O_digest_b3 σ s.1 s.2) fuel (z, -1) = some z' ∧ lp (fun s => M_digest_b3 s.1 s.2.1 s.2.2) fuel (z, -1, μ) = some (z', μ') ∧ RK σ0 μ0 σ μ' := by
  have up : ∀ j, nI j - 1 + 1 = nI (j + 1) - 1 := fun j => by rw [Int32.sub_add_cancel, zz_dec (len := j + 1) (by omega)]; rfl
  have m1 : (-1 : Int32) = nI 0 - 1 := by decide
  obtain ⟨r, r2, h1, h2, μ', h3, h4⟩ := lp_two (f := fun s => O_digest_b3 σ s.1 s.2) (g := fun s => M_digest_b3 s.1 s.2.1 s.2.2) 41 (fun j s t => ∃ y ν, s = (y, nI j - 1) ∧ t = (y, nI j - 1, ν) ∧ RK σ0 μ0 σ ν) (fun r r2 => ∃ ν, r2 = (r, ν) ∧ RK σ0 μ0 σ ν) (z, -1) (z, -1, μ) ⟨z, μ, by rw [m1], by rw [m1], h⟩ (by omega) (by
    rintro j s t hj ⟨y, ν, rfl, rfl, hr⟩
    left
    obtain ⟨q1, q2⟩ := ix40 j hj
    obtain ⟨a, ν', c1, c2, c3, c4⟩ := s_tree hr.1 (nI j - 1)
    unfold M_tree at c2
    rw [if_neg q1, bid, bid] at c2
    refine ⟨(31 * y + a.toInt64, nI (j + 1) - 1), (31 * y + a.toInt64, nI (j + 1) - 1, ν'), ?_, ?_, _, ν', rfl, rfl, hr.m c3 c4⟩
    · show O_digest_b3 σ y (nI j - 1) = _
      unfold O_digest_b3
      refine ifn q2 ?_
      refine ob c1 ?_
      exact lti rfl (lti (up j) rfl)
    · show M_digest_b3 y (nI j - 1) ν = _
      unfold M_digest_b3
      refine ifn q2 ?_
      refine ob c2 ?_
      exact lti rfl (lti rfl (lti rfl (lti (up j) rfl)))) (by
    rintro s t ⟨y, ν, rfl, rfl, hr⟩
    have q2 : (40 : Int32) ≤ nI 41 - 1 := by decide
    refine ⟨y, (y, ν), ?_, ?_, ν, rfl, hr⟩
    · show O_digest_b3 σ y (nI 41 - 1) = _
      unfold O_digest_b3
      exact ifp q2 rfl
    · show M_digest_b3 y (nI 41 - 1) ν = _
      unfold M_digest_b3
      exact ifp q2 rfl)
  subst h3
  exact ⟨r, μ', h1, h2, h4⟩
theorem in6 : ∀ j, j < 7 → ¬ M_in (nI j) 0 6 = 0 := by decide +kernel
theorem in2 : ∀ j, j < 3 → ¬ M_in (nI j) 0 2 = 0 := by decide +kernel
theorem in7 : ∀ j, j < 8 → ¬ M_in (nI j) 0 7 = 0 := by decide +kernel
/- the nodes -/
theorem dg_4 (h : RK σ0 μ0 σ μ) {i : Nat} (hi : i < 7) (z : Int64) : ∃ z' μ', lp (fun s => O_digest_b4 σ (nI i) s.1 s.2) fuel (z, 0) = some z' ∧ lp (fun s => M_digest_b4 (nI i) s.1 s.2.1 s.2.2) fuel (z, 0, μ) = some (z', μ') ∧ RK σ0 μ0 σ μ' := by
  obtain ⟨r, r2, h1, h2, μ', h3, h4⟩ := lp_two (f := fun s => O_digest_b4 σ (nI i) s.1 s.2) (g := fun s => M_digest_b4 (nI i) s.1 s.2.1 s.2.2) 3 (fun j s t => ∃ y ν, s = (y, nI j) ∧ t = (y, nI j, ν) ∧ RK σ0 μ0 σ ν) (fun r r2 => ∃ ν, r2 = (r, ν) ∧ RK σ0 μ0 σ ν) (z, 0) (z, 0, μ) ⟨z, μ, rfl, rfl, h⟩ (by omega) (by
    rintro j s t hj ⟨y, ν, rfl, rfl, hr⟩
    left
    obtain ⟨a, ν', c1, c2, c3, c4⟩ := s_node hr.1 (nI i) (nI j)
    have ec : (if (M_in (nI i) 0 6) = 0 then false else if (M_in (nI j) 0 2) = 0 then false else true : Bool) = true := by rw [if_neg (in6 i hi), if_neg (in2 j hj)]
    have c2 : M_nodeFor (nI i) (nI j) ν = some (a, ν') := by
      rw [← c2]
      unfold M_node
      symm
      refine lti ec ?_
      rw [if_pos rfl, bid, bid]
    refine ⟨(31 * y + a.toInt64, nI (j + 1)), (31 * y + a.toInt64, nI (j + 1), ν'), ?_, ?_, _, ν', rfl, rfl, hr.m c3 c4⟩
    · show O_digest_b4 σ (nI i) y (nI j) = _
      unfold O_digest_b4
      refine ifn (show ¬ (2 : Int32) < nI j from nI_nlt (a := 2) (by omega) (by omega)) ?_
      refine ob c1 ?_
      exact lti rfl (lti (nI_1 _) rfl)
    · show M_digest_b4 (nI i) y (nI j) ν = _
      unfold M_digest_b4
      refine ifn (show ¬ (3 : Int32) ≤ nI j from nI_ge (b := 3) hj (by omega)) ?_
      refine ob c2 ?_
      exact lti rfl (lti rfl (lti rfl (lti (nI_1 _) rfl)))) (by
    rintro s t ⟨y, ν, rfl, rfl, hr⟩
    refine ⟨y, (y, ν), ?_, ?_, ν, rfl, hr⟩
    · show O_digest_b4 σ (nI i) y (nI 3) = _
      unfold O_digest_b4
      exact ifp (by decide) rfl
    · show M_digest_b4 (nI i) y (nI 3) ν = _
      unfold M_digest_b4
      exact ifp (by decide) rfl)
  subst h3
  exact ⟨r, μ', h1, h2, h4⟩
theorem dg_5 (h : RK σ0 μ0 σ μ) (z : Int64) : ∃ z' μ', lp (fun s => O_digest_b5 σ s.1 s.2) fuel (z, 0) = some z' ∧ lp (fun s => M_digest_b5 s.1 s.2.1 s.2.2) fuel (z, 0, μ) = some (z', μ') ∧ RK σ0 μ0 σ μ' := by
  obtain ⟨r, r2, h1, h2, μ', h3, h4⟩ := lp_two (f := fun s => O_digest_b5 σ s.1 s.2) (g := fun s => M_digest_b5 s.1 s.2.1 s.2.2) 7 (fun j s t => ∃ y ν, s = (y, nI j) ∧ t = (y, nI j, ν) ∧ RK σ0 μ0 σ ν) (fun r r2 => ∃ ν, r2 = (r, ν) ∧ RK σ0 μ0 σ ν) (z, 0) (z, 0, μ) ⟨z, μ, rfl, rfl, h⟩ (by omega) (by
    rintro j s t hj ⟨y, ν, rfl, rfl, hr⟩
    left
    obtain ⟨y', ν', c1, c2, c3⟩ := dg_4 hr hj y
    refine ⟨(y', nI (j + 1)), (y', nI (j + 1), ν'), ?_, ?_, _, ν', rfl, rfl, c3⟩
    · show O_digest_b5 σ y (nI j) = _
      unfold O_digest_b5
      refine ifn (show ¬ (7 : Int32) ≤ nI j from nI_ge (b := 7) hj (by omega)) ?_
      refine ob c1 ?_
      exact lti (nI_1 _) rfl
    · show M_digest_b5 y (nI j) ν = _
      unfold M_digest_b5
      refine ifn (show ¬ (7 : Int32) ≤ nI j from nI_ge (b := 7) hj (by omega)) ?_
      refine ob c2 ?_
      exact lti rfl (lti rfl (lti (nI_1 _) rfl))) (by
    rintro s t ⟨y, ν, rfl, rfl, hr⟩
    refine ⟨y, (y, ν), ?_, ?_, ν, rfl, hr⟩
    · show O_digest_b5 σ y (nI 7) = _
      unfold O_digest_b5
      exact ifp (by decide) rfl
    · show M_digest_b5 y (nI 7) ν = _
      unfold M_digest_b5
      exact ifp (by decide) rfl)
  subst h3
  exact ⟨r, μ', h1, h2, h4⟩
/- a row -/
theorem dg_6 (h : RK σ0 μ0 σ μ) {x : Int32} (hx : ¬ M_in x 0 40319 = 0) (z : Int64) : ∃ z' σ' μ', lp (fun s => O_digest_b6 x s.1 s.2.1 s.2.2) fuel (z, 0, σ) = some (z', σ') ∧ M_rowDigest z x μ = some (z', μ') ∧ RK σ0 μ0 σ' μ' := by
  obtain ⟨r, r2, h1, h2, z', σ', μ', rfl, rfl, h4⟩ := lp_two (f := fun s => O_digest_b6 x s.1 s.2.1 s.2.2) (g := fun s => M_rowDigest_b1 x s.1 s.2.1 s.2.2) 8 (fun j s t => ∃ y τ ν, s = (y, nI j, τ) ∧ t = (y, nI j, ν) ∧ RK σ0 μ0 τ ν) (fun r r2 => ∃ y τ ν, r = (y, τ) ∧ r2 = (y, ν) ∧ RK σ0 μ0 τ ν) (z, 0, σ) (z, 0, μ) ⟨z, σ, μ, rfl, rfl, h⟩ (by omega) (by
    rintro j s t hj ⟨y, τ, ν, rfl, rfl, hr⟩
    left
    obtain ⟨a, τ', ν', c1, c2, c3, c4, c5⟩ := s_row hr.1 x (nI j)
    have ec : (if (M_in x 0 40319) = 0 then false else if (M_in (nI j) 0 7) = 0 then false else true : Bool) = true := by rw [if_neg hx, if_neg (in7 j hj)]
    have c2 : M_rowOf x (nI j) ν = some (a, ν') := by
      rw [← c2]
      unfold M_row
      symm
      refine lti ec ?_
      rw [if_pos rfl, bid, bid]
    refine ⟨(31 * y + a.toInt64, nI (j + 1), τ'), (31 * y + a.toInt64, nI (j + 1), ν'), ?_, ?_, _, τ', ν', rfl, rfl, hr.cm c3 c4 c5⟩
    · show O_digest_b6 x y (nI j) τ = _
      unfold O_digest_b6
      refine ifn (show ¬ (8 : Int32) ≤ nI j from nI_ge (b := 8) hj (by omega)) ?_
      refine ob c1 ?_
      exact lti rfl (lti rfl (lti rfl (lti (nI_1 _) rfl)))
    · show M_rowDigest_b1 x y (nI j) ν = _
      unfold M_rowDigest_b1
      refine ifn (show ¬ (8 : Int32) ≤ nI j from nI_ge (b := 8) hj (by omega)) ?_
      refine ob c2 ?_
      exact lti rfl (lti rfl (lti rfl (lti (nI_1 _) rfl)))) (by
    rintro s t ⟨y, τ, ν, rfl, rfl, hr⟩
    refine ⟨(y, τ), (y, ν), ?_, ?_, y, τ, ν, rfl, rfl, hr⟩
    · show O_digest_b6 x y (nI 8) τ = _
      unfold O_digest_b6
      exact ifp (by decide) rfl
    · show M_rowDigest_b1 x y (nI 8) ν = _
      unfold M_rowDigest_b1
      exact ifp (by decide) rfl)
  refine ⟨z', σ', μ', h1, ?_, h4⟩
  unfold M_rowDigest
  refine lti rfl ?_
  refine ob h2 ?_
  exact lti rfl (lti rfl rfl)
end
