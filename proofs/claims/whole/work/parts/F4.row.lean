theorem pc_full : ∀ n, n < 9 → pc8 (fullM n) = n := by decide +kernel
theorem full_nz : ∀ n, n < 9 → 1 ≤ n → fullM n ≠ 0 := by decide +kernel
theorem rn_cases (x : Int32) : (∃ s, s < 40320 ∧ x = nI s ∧ O_isRowNumber x = 1 ∧ M_in x 0 40319 = 1) ∨ (O_isRowNumber x = 0 ∧ M_in x 0 40319 = 0) := by
  have eO : O_isRowNumber x = if x < 0 then 0 else if 40320 ≤ x then 0 else 1 := by
    unfold O_isRowNumber lt
    by_cases a : x < 0
    · simp [a]
    · by_cases b : 40320 ≤ x
      · simp [a, b]
      · simp [a, b]
  rw [eO]
  rcases in3 (x := x) (hi := 40319) (by omega) with ⟨k, k1, rfl, k3⟩ | ⟨k1, k2⟩
  · left
    refine ⟨k, by omega, rfl, ?_, k3⟩
    rw [if_neg (nI_pos (by omega)), if_neg (show ¬ (40320 : Int32) ≤ nI k from nI_ge (b := 40320) (by omega) (by omega))]
  · right
    refine ⟨?_, k1⟩
    by_cases q0 : x < 0
    · exact if_pos q0
    · rw [if_neg q0]
      refine if_pos ?_
      obtain ⟨k, w1, w2⟩ := nI_of q0
      subst w2
      have := (nI_ltI (a := 40319) (by omega) w1).mp (k2.resolve_left q0)
      exact nI_le (a := 40320) (by omega) w1
section
variable {σ μ : Mem} {n : Nat} {G : Nat → Nat} {c : Nat} {kd : Nat → Bool} {ch : Nat → List Nat} {st : Nat → Nat} {root : Nat}
theorem DR.lay {τ : Mem} (h : DR σ 10 kd ch st root) (ek : ∀ k, k ≠ 4 → k ≠ 18 → k ≠ 20 → τ k = σ k) : DR τ 10 kd ch st root := by
  obtain ⟨⟨b1, b2, b3, b4, b5, b6, hd, b7⟩, b8, b9, b10, b11⟩ := h
  exact ⟨⟨b1.same (ek _ (by omega) (by omega) (by omega)) (ek _ (by omega) (by omega) (by omega)) (ek _ (by omega) (by omega) (by omega)) (ek _ (by omega) (by omega) (by omega)), by rw [ek 10 (by omega) (by omega) (by omega)]; exact b2, b3, b4, fun i hi => by rw [ek 19 (by omega) (by omega) (by omega)]; exact b5 i hi, b6, hd, by rw [ek 10 (by omega) (by omega) (by omega)]; exact b7.1, by rw [ek 16 (by omega) (by omega) (by omega)]; exact b7.2⟩, b8, b9, by rw [ek 10 (by omega) (by omega) (by omega)]; exact b10, b11⟩
theorem CI.lay {τ : Mem} (h : CI σ n G c kd ch st root) (ek : ∀ k, k ≠ 4 → k ≠ 18 → k ≠ 20 → τ k = σ k) : CI τ n G c kd ch st root := by
  obtain ⟨⟨a1, a2, a3, a4, a5, a6, a7, a8, a9, a10, a11, a12⟩, b1, b2⟩ := h
  have e0 : τ 0 = σ 0 := ek 0 (by omega) (by omega) (by omega)
  refine ⟨⟨by rw [e0]; exact a1, a2, a3, by rw [e0]; exact a4, a5, fun g hg => by rw [ek 1 (by omega) (by omega) (by omega)]; exact a6 g hg, by rw [e0]; exact a7, a8.lay ek, a9, a10, a11.same (fun a ha => ek _ (by omega) (by omega) (by omega)), a12.same (fun a ha => ek _ (by omega) (by omega) (by omega))⟩, by rw [e0]; exact b1, by rw [ek 3 (by omega) (by omega) (by omega)]; exact b2⟩
theorem row_both (hC : CI σ n G c kd ch st root) (hM : MI μ n G c) {num : Nat} (hnum : num < 2 ^ 31) : ∃ (σ' μ1 μ' : Mem) (R : List Nat), T_layRow 10 (nI num) 4 σ = some σ' ∧ M_findsTree μ = some μ1 ∧ M_findsRow (nI num) μ1 = some μ' ∧ R.length = n ∧ (∀ p, p < n → σ' 4 p = nI (R.getD p 0) ∧ μ' 57 p = nI (R.getD p 0)) ∧ CI σ' n G c kd ch st root ∧ MI μ' n G c ∧ PubM μ μ' ∧ (∀ k, k ≠ 4 → k ≠ 18 → k ≠ 20 → σ' k = σ k) := by
  have hCT := hC.ct
  have hD := hC.1.2.2.2.2.2.2.2.1
  have hroot := hC.1.2.2.2.2.2.2.2.2.1
  have hn1 := hC.1.2.1
  have hn8 := hC.1.2.2.1
  obtain ⟨-, -, μ1, t1, t2⟩ := findsTree_CT hM rfl hCT
  obtain ⟨t3, -, -, t4, t5⟩ := t2
  have hM1 := t3.mi hM
  obtain ⟨μ', r1, r2, r3⟩ := M_findsRow_ok hD.nf t5 t4 (n := n) (by obtain ⟨q, -⟩ := hM1; exact q) hn8 hroot (by rw [hroot]; exact full_nz n (by omega) hn1) hnum
  obtain ⟨σ', l1, l2, l3, l4⟩ := T_layRow_ok hD rfl hnum
  rw [hroot, pc_full n (by omega)] at l3
  exact ⟨σ', μ1, μ', _, l1, t1, r1, l3, fun p hp => ⟨l2 p (by omega), r3 p (by omega)⟩, hC.lay l4, r2.mi hM1, t3.tr r2, l4⟩
end
theorem s_row {σ μ : Mem} (h : CMx σ μ) (x y : Int32) : ∃ a σ' μ', O_row x y σ = some (a, σ') ∧ M_row x y μ = some (a, μ') ∧ CMx σ' μ' ∧ KC σ σ' ∧ KM μ μ' := by
  have h0 := h
  obtain ⟨n, G, c, ⟨kd, ch, st, root, hC⟩, hM⟩ := h
  have hn8 := hC.1.2.2.1
  have hcl := cnt_lt (n := n) (G := G) (bs := tkB n G c) (more := 0) hM.2.2.1
  rcases rn_cases x with ⟨k, k1, rfl, k3, k4⟩ | ⟨k1, k2⟩
  · have k3' : ¬ O_isRowNumber (nI k) = 0 := by rw [k3]; decide
    have k4' : ¬ M_in (nI k) 0 40319 = 0 := by rw [k4]; decide
    rcases in3 (x := y) (hi := 7) (by omega) with ⟨p, p1, rfl, p3⟩ | ⟨p1, p2⟩
    · have p3' : ¬ M_in (nI p) 0 7 = 0 := by
        have : M_in (nI p) 0 7 = 1 := p3
        rw [this]; decide
      obtain ⟨μ1, m1, m2, m3⟩ := s_manyNow (σ := σ) hM
      have eM : (if (M_in (nI k) 0 40319) = 0 then false else if (M_in (nI p) 0 7) = 0 then false else true : Bool) = true := by rw [if_neg k4', if_neg p3']
      have eO : (if (O_isRowNumber (nI k)) = 0 then true else if nI p < 0 then true else if nI p < 8 then false else true : Bool) = false := by
        rw [if_neg k3', if_neg (nI_pos (by omega)), if_pos (show nI p < 8 from nI_lt (b := 8) (by omega) (by omega))]
      have c1 : (0 ≤ lg_cmp ((nI k).toInt64) (lN (cnt n G (tkB n G c) 0))) ↔ cnt n G (tkB n G c) 0 ≤ k := by
        rw [lg_cmp_ge, nI_l (by omega), lN_leB (by omega) (by omega)]
      by_cases q : cnt n G (tkB n G c) 0 ≤ k ∨ n ≤ p
      · refine ⟨-1, σ, μ1, ?_, ?_, ⟨n, G, c, ⟨kd, ch, st, root, hC⟩, m2⟩, KC.rf, m3.km⟩
        · unfold O_row
          refine lti eO ?_
          refine ifn (by decide) ?_
          refine ob hC.count ?_
          refine lti (b := true) ?_ (ifp rfl rfl)
          by_cases q1 : cnt n G (tkB n G c) 0 ≤ k
          · exact if_pos (c1.mpr q1)
          · rw [if_neg (fun e => q1 (c1.mp e)), hC.1.1]
            exact if_neg (nI_nlt (q.resolve_left q1) (by omega))
        · unfold M_row
          refine lti eM ?_
          refine ob (a := (-1, μ1)) ?_ (lti rfl (lti rfl rfl))
          refine ifp rfl ?_
          refine ob (a := (-1, μ1)) ?_ (lti rfl (lti rfl rfl))
          unfold M_rowOf
          refine ob m1 ?_
          refine lti rfl ?_
          refine lti rfl ?_
          refine lti (b := true) ?_ (ifp rfl rfl)
          by_cases q1 : cnt n G (tkB n G c) 0 ≤ k
          · exact if_pos (nI_le q1 (by omega))
          · have g1 : ¬ nI (cnt n G (tkB n G c) 0) ≤ nI k := nI_ge (by omega) (by omega)
            have g2 : μ1 43 0 = nI n := by obtain ⟨u, -⟩ := m2; exact u
            show (if nI (cnt n G (tkB n G c) 0) ≤ nI k then true else if nI p < (μ1 43 0) then false else true : Bool) = true
            rw [if_neg g1, g2]
            exact if_neg (nI_nlt (q.resolve_left q1) (by omega))
      · obtain ⟨σ', μ2, μ', R, b1, b2, b3, b4, b5, b6, b7, b8, b9⟩ := row_both hC m2 (num := k) (by omega)
        obtain ⟨e4, e57⟩ := b5 p (by omega)
        refine ⟨nI (R.getD p 0), σ', μ', ?_, ?_, ⟨n, G, c, ⟨kd, ch, st, root, b6⟩, b7⟩, ⟨fun k hk => b9 k (by omega) (by omega) (by omega), by rw [b9 0 (by omega) (by omega) (by omega)], by rw [b9 0 (by omega) (by omega) (by omega)]⟩, m3.km.tr b8.km⟩
        · unfold O_row
          refine lti eO ?_
          refine ifn (by decide) ?_
          refine ob hC.count ?_
          refine lti (b := false) ?_ ?_
          · rw [if_neg (fun e => q (Or.inl (c1.mp e))), hC.1.1]
            exact if_pos (nI_lt (by omega) (by omega))
          refine ifn (by decide) ?_
          refine ob b1 ?_
          exact ob (a := nI (R.getD p 0)) (by rw [rdT (N := 8) rfl (by omega) (by omega), e4]) rfl
        · unfold M_row
          refine lti eM ?_
          refine ob (a := (nI (R.getD p 0), μ')) ?_ (lti rfl (lti rfl rfl))
          refine ifp rfl ?_
          refine ob (a := (nI (R.getD p 0), μ')) ?_ (lti rfl (lti rfl rfl))
          unfold M_rowOf
          refine ob m1 ?_
          refine lti rfl ?_
          refine lti rfl ?_
          refine lti (b := false) ?_ ?_
          · have g1 : ¬ nI (cnt n G (tkB n G c) 0) ≤ nI k := nI_ge (by omega) (by omega)
            have g2 : μ1 43 0 = nI n := by obtain ⟨u, -⟩ := m2; exact u
            show (if nI (cnt n G (tkB n G c) 0) ≤ nI k then true else if nI p < (μ1 43 0) then false else true : Bool) = false
            rw [if_neg g1, g2]
            exact if_pos (nI_lt (by omega) (by omega))
          refine ifn (by decide) ?_
          refine ob b2 ?_
          refine ob b3 ?_
          exact ob (a := nI (R.getD p 0)) (by rw [rdT (N := 8) rfl (by omega) (by omega), e57]) rfl
    · have p1 : M_in y 0 7 = 0 := p1
      refine ⟨-2, σ, μ, ?_, ?_, h0, KC.rf, KM.rf⟩
      · unfold O_row
        refine lti (b := true) ?_ (ifp rfl rfl)
        rw [if_neg k3']
        by_cases q0 : y < 0
        · exact if_pos q0
        · rw [if_neg q0]
          refine if_neg ?_
          obtain ⟨j, w1, w2⟩ := nI_of q0
          subst w2
          have := (nI_ltI (a := 7) (by omega) w1).mp (p2.resolve_left q0)
          exact nI_nlt (b := 8) (by omega) (by omega)
      · unfold M_row
        refine lti (b := false) (by rw [if_neg k4', if_pos p1]) ?_
        exact ob (a := (-2, μ)) (ifn (by decide) rfl) (lti rfl (lti rfl rfl))
  · refine ⟨-2, σ, μ, ?_, ?_, h0, KC.rf, KM.rf⟩
    · unfold O_row
      exact lti (b := true) (if_pos k1) (ifp rfl rfl)
    · unfold M_row
      refine lti (b := false) (if_pos k2) ?_
      exact ob (a := (-2, μ)) (ifn (by decide) rfl) (lti rfl (lti rfl rfl))
def itC (σ : Mem) (s f : Nat) (R : List Nat) : Nat → Mem
  | 0 => σ
  | j + 1 => mput (itC σ s f R j) 9 (s * 60 + j) (kpt f (nI (R.getD j 0)))
def itM (μ : Mem) (s f : Nat) (R : List Nat) : Nat → Mem
  | 0 => μ
  | j + 1 => mput (itM μ s f R j) 64 (60 * s + j) (kpt f (nI (R.getD j 0)))
theorem itC_k {σ : Mem} {s f : Nat} {R : List Nat} {k : Nat} (hk : k ≠ 9) : ∀ j, itC σ s f R j k = σ k
  | 0 => rfl
  | j + 1 => by unfold itC mput; rw [mset_ne hk]; exact itC_k hk j
theorem itM_k {σ : Mem} {s f : Nat} {R : List Nat} {k : Nat} (hk : k ≠ 64) : ∀ j, itM σ s f R j k = σ k
  | 0 => rfl
  | j + 1 => by unfold itM mput; rw [mset_ne hk]; exact itM_k hk j
theorem it_rel {σ μ : Mem} {s f : Nat} {R : List Nat} (h : Rel σ μ) (hs : s < 4) : ∀ j, j ≤ 60 → Rel (itC σ s f R j) (itM μ s f R j)
  | 0, _ => h
  | j + 1, hj => (it_rel h hs j (by omega)).item hs (by omega) _
theorem itC_loop {σ : Mem} {s f m : Nat} {R : List Nat} (hs : s < 4) (hf : f ≤ 2) (hm : m ≤ 8) (h7 : σ 7 s = nI f) (h4 : ∀ p, p < m → σ 4 p = nI (R.getD p 0)) : lp (fun z => O_write_b1 (nI s) (nI m) z.1 z.2) fuel (0, σ) = some (itC σ s f R m) := by
  have key : ∃ r, lp (fun z => O_write_b1 (nI s) (nI m) z.1 z.2) fuel (0, σ) = some r ∧ r = itC σ s f R m := by
    refine lp_for m (fun j z => z = (nI j, itC σ s f R j)) _ _ 0 (by omega) rfl (by omega) ?_ ?_
    · rintro j z hj rfl
      left
      refine ⟨(nI (j + 1), itC σ s f R (j + 1)), ?_, rfl⟩
      show O_write_b1 (nI s) (nI m) (nI j) (itC σ s f R j) = _
      unfold O_write_b1
      refine ifn (nI_ge hj (by omega)) ?_
      refine ob (a := nI (R.getD j 0)) (by rw [rdT (N := 8) rfl (by omega) (by omega), itC_k (by omega), h4 j hj]) ?_
      refine ob (setItem_eq hs hf (by rw [itC_k (by omega)]; exact h7) (by omega) _) ?_
      exact lti (nI_1 _) rfl
    · rintro z rfl
      refine ⟨_, ?_, rfl⟩
      unfold O_write_b1
      exact ifp (nI_le (Nat.le_refl _) (by omega)) rfl
  obtain ⟨r, k1, k2⟩ := key
  rw [k1, k2]
theorem itM_loop {μ : Mem} {s f n sz : Nat} {R : List Nat} (hs : s < 4) (hf : f ≤ 2) (hn : n ≤ 8) (hsz : sz ≤ 60) (h62 : μ 62 s = nI f) (h63 : μ 63 s = nI sz) (h0 : μ 43 0 = nI n) (h57 : ∀ p, p < n → μ 57 p = nI (R.getD p 0)) {m : Nat} (hm : m = if n < sz then n else sz) : lp (fun z => M_write_b1 (nI s) z.1 z.2) fuel (0, μ) = some (nI m, itM μ s f R m) := by
  have hm2 : m ≤ n ∧ m ≤ sz ∧ (m = n ∨ m = sz) := by
    by_cases q : n < sz
    · rw [if_pos q] at hm; omega
    · rw [if_neg q] at hm; omega
  have r63 : ∀ j, rd (itM μ s f R j) 63 (nI s) = some (nI sz) := fun j => by rw [rdT (N := 4) rfl hs (by omega), itM_k (by omega), h63]
  have key : ∃ r, lp (fun z => M_write_b1 (nI s) z.1 z.2) fuel (0, μ) = some r ∧ r = (nI m, itM μ s f R m) := by
    refine lp_for m (fun j z => z = (nI j, itM μ s f R j)) _ _ 0 (by omega) rfl (by omega) ?_ ?_
    · rintro j z hj rfl
      left
      refine ⟨(nI (j + 1), itM μ s f R (j + 1)), ?_, rfl⟩
      show M_write_b1 (nI s) (nI j) (itM μ s f R j) = _
      unfold M_write_b1
      refine ob (r63 j) ?_
      have g1 : ¬ nI sz ≤ nI j := nI_ge (by omega) (by omega)
      have g2 : ¬ nI n ≤ nI j := nI_ge (by omega) (by omega)
      refine lti (b := true) ?_ ?_
      · show (if nI sz ≤ nI j then false else if (itM μ s f R j) 43 0 ≤ nI j then false else true : Bool) = true
        rw [if_neg g1, itM_k (by omega), h0]; exact if_neg g2
      refine ifp rfl ?_
      refine ob (a := nI (R.getD j 0)) (by rw [rdT (N := 8) rfl (by omega) (by omega), itM_k (by omega), h57 j (by omega)]) ?_
      refine ob (keep_eq hs hf (by rw [itM_k (by omega)]; exact h62) (by omega) _) ?_
      exact lti (nI_1 _) rfl
    · rintro z rfl
      refine ⟨(nI m, itM μ s f R m), ?_, rfl⟩
      unfold M_write_b1
      refine ob (r63 m) ?_
      refine lti (b := false) ?_ (ifn (by decide) rfl)
      show (if nI sz ≤ nI m then false else if (itM μ s f R m) 43 0 ≤ nI m then false else true : Bool) = false
      by_cases q : sz ≤ m
      · exact if_pos (nI_le q (by omega))
      · have g1 : ¬ nI sz ≤ nI m := nI_ge (by omega) (by omega)
        rw [if_neg g1, itM_k (by omega), h0]
        exact if_pos (nI_le (by omega) (by omega))
  obtain ⟨r, k1, k2⟩ := key
  rw [k1, k2]
theorem s_write {σ μ : Mem} (h : Rel σ μ) (x y : Int32) : ∃ a σ' μ', O_write x y σ = some (a, σ') ∧ M_write x y μ = some (a, μ') ∧ Rel σ' μ' := by
  have hx := h.1
  obtain ⟨n, G, c, ⟨kd, ch, st, root, hC⟩, hM⟩ := hx
  have hn8 := hC.1.2.2.1
  have hcl := cnt_lt (n := n) (G := G) (bs := tkB n G c) (more := 0) hM.2.2.1
  rcases rn_cases x with ⟨k, k1, rfl, k3, k4⟩ | ⟨k1, k2⟩
  · have k3' : ¬ O_isRowNumber (nI k) = 0 := by rw [k3]; decide
    have k4' : ¬ M_in (nI k) 0 40319 = 0 := by rw [k4]; decide
    rcases sh_cases y with ⟨s, hs, rfl, s1, s2⟩ | ⟨s1, s2⟩
    · have s1' : ¬ O_isSheet (nI s) = 0 := by rw [s1]; decide
      have s2' : ¬ M_isSheet (nI s) = 0 := by rw [s2]; decide
      have eO : (if (O_isRowNumber (nI k)) = 0 then true else if (O_isSheet (nI s)) = 0 then true else false : Bool) = false := by rw [if_neg k3', if_neg s1']
      have eM : (if (M_in (nI k) 0 40319) = 0 then true else if (M_isSheet (nI s)) = 0 then true else false : Bool) = false := by rw [if_neg k4', if_neg s2']
      rcases h.2.2.2 s hs with ⟨f1, f2⟩ | ⟨f, sz, hf, hsz, g1, g2, g3, g4, g5, g6⟩
      · refine ⟨(-10) - 1, _, _, ?_, ?_, h.found 1⟩
        · unfold O_write
          refine lti eO ?_
          refine ifn (by decide) ?_
          refine ob (a := 1) ?_ ?_
          · unfold S_isLost
            refine ob (rdT (N := 4) rfl hs (by omega)) ?_
            rw [f1]
            exact lti (b := 1) rfl rfl
          refine ifn (by decide) ?_
          exact lti rfl (lti rfl (lti rfl rfl))
        · unfold M_write
          refine lti eM ?_
          refine ifn (by decide) ?_
          refine ob (rdT (N := 4) rfl hs (by omega)) ?_
          refine ifp f2 ?_
          exact lti rfl (lti rfl (lti rfl rfl))
      · have o1 : S_isLost (nI s) σ = some 0 := by
          unfold S_isLost
          refine ob (rdT (N := 4) rfl hs (by omega)) ?_
          rw [g1]
          exact lti (b := 0) (if_neg (nI_nm1 (by omega))) rfl
        have c1 : (lg_cmp ((nI k).toInt64) (lN (cnt n G (tkB n G c) 0)) < 0) ↔ k < cnt n G (tkB n G c) 0 := by
          rw [lg_cmp_lt, nI_l (by omega), lN_ltB (by omega) (by omega)]
        obtain ⟨μ1, m1, m2, m3⟩ := s_manyNow (σ := σ) hM
        have gm : ¬ (1 : Int32) = 0 := by decide
        by_cases q : k < cnt n G (tkB n G c) 0
        · obtain ⟨σ', μ2, μ', R, b1, b2, b3, b4, b5, b6, b7, b8, b9⟩ := row_both hC m2 (num := k) (by omega)
          obtain ⟨m, hm⟩ : ∃ m, m = if n < sz then n else sz := ⟨_, rfl⟩
          have hm2 : m ≤ n ∧ m ≤ sz := by
            by_cases q : n < sz
            · rw [if_pos q] at hm; omega
            · rw [if_neg q] at hm; omega
          have hR : Rel σ' μ' := h.k1 ⟨n, G, c, ⟨kd, ch, st, root, b6⟩, b7⟩ ⟨fun k hk => b9 k (by omega) (by omega) (by omega), by rw [b9 0 (by omega) (by omega) (by omega)], by rw [b9 0 (by omega) (by omega) (by omega)]⟩ (m3.km.tr b8.km)
          have kp := (m3.tr b8).2.2.2.2
          refine ⟨nI m, itC σ' s f R m, itM μ' s f R m, ?_, ?_, it_rel hR hs m (by omega)⟩
          · unfold O_write
            refine lti eO ?_
            refine ifn (by decide) ?_
            refine ob o1 ?_
            refine ifp rfl ?_
            refine ob hC.count ?_
            refine ifp (c1.mpr q) ?_
            refine ob b1 ?_
            refine ob (a := nI sz) ?_ ?_
            · unfold S_sizeOf
              refine ob (rdT (N := 4) rfl hs (by omega)) ?_
              rw [b9 8 (by omega) (by omega) (by omega), g4]
            refine lti (b := nI m) ?_ ?_
            · have e0 : σ' 0 0 = nI n := b6.1.1
              rw [e0]
              by_cases q2 : n < sz
              · rw [if_pos q2] at hm
                rw [hm]; exact if_pos (nI_lt q2 (by omega))
              · rw [if_neg q2] at hm
                rw [hm]; exact if_neg (nI_nlt (by omega) (by omega))
            refine ob (itC_loop (f := f) (R := R) hs hf (by omega) (by rw [b9 7 (by omega) (by omega) (by omega)]; exact g1) (fun p hp => (b5 p (by omega)).1)) ?_
            rfl
          · unfold M_write
            refine lti eM ?_
            refine ifn (by decide) ?_
            refine ob (a := 1) (by rw [rdT (N := 4) rfl hs (by omega), g2]) ?_
            refine ifn gm ?_
            refine ob m1 ?_
            refine lti rfl ?_
            refine lti rfl ?_
            refine ifp (nI_lt q (by omega)) ?_
            refine ob b2 ?_
            refine ob b3 ?_
            refine ob (itM_loop (f := f) (n := n) (sz := sz) (R := R) hs hf hn8 hsz (by rw [kp 62 (by omega)]; exact g3) (by rw [kp 63 (by omega)]; exact g5) (by obtain ⟨u, -⟩ := b7; exact u) (fun p hp => (b5 p hp).2) hm) ?_
            exact lti rfl (lti rfl rfl)
        · refine ⟨0, σ, μ1, ?_, ?_, h.k1 ⟨n, G, c, ⟨kd, ch, st, root, hC⟩, m2⟩ KC.rf m3.km⟩
          · unfold O_write
            refine lti eO ?_
            refine ifn (by decide) ?_
            refine ob o1 ?_
            refine ifp rfl ?_
            refine ob hC.count ?_
            exact ifn (fun e => q (c1.mp e)) rfl
          · unfold M_write
            refine lti eM ?_
            refine ifn (by decide) ?_
            refine ob (a := 1) (by rw [rdT (N := 4) rfl hs (by omega), g2]) ?_
            refine ifn gm ?_
            refine ob m1 ?_
            refine lti rfl ?_
            refine lti rfl ?_
            exact ifn (nI_nlt (by omega) (by omega)) rfl
    · refine ⟨-2, σ, μ, ?_, ?_, h⟩
      · unfold O_write
        exact lti (b := true) (by rw [if_neg k3', if_pos s1]) (ifp rfl rfl)
      · unfold M_write
        exact lti (b := true) (by rw [if_neg k4', if_pos s2]) (ifp rfl rfl)
  · refine ⟨-2, σ, μ, ?_, ?_, h⟩
    · unfold O_write
      exact lti (b := true) (if_pos k1) (ifp rfl rfl)
    · unfold M_write
      exact lti (b := true) (if_pos k2) (ifp rfl rfl)
