theorem M_placeOf_ok {τ : Mem} {n : Nat} {T : Nat → Nat} (hn : n ≤ 8) (hT : ∀ i, i < n → τ 60 i = nI (T i)) (hR : Row0 n n T) {S : Nat} (hS : S < 256) (hex : ∃ p, p < n ∧ S.testBit (T p - 97) = true) : ∃ p, p < n ∧ S.testBit (T p - 97) = true ∧ (∀ q, q < p → S.testBit (T q - 97) = false) ∧ M_placeOf (nI S) τ = some (nI p) := by
  obtain ⟨p0, hp0, hb0⟩ := hex
  have key : ∃ r, lp (fun s => M_placeOf_b1 (nI S) τ s) fuel 0 = some r ∧ ∃ p, p < n ∧ S.testBit (T p - 97) = true ∧ (∀ q, q < p → S.testBit (T q - 97) = false) ∧ r = nI p := by
    refine lp_for n (fun j s => s = nI j ∧ ∀ q, q < j → S.testBit (T q - 97) = false) _ _ 0 (by omega) ⟨rfl, fun q hq => by omega⟩ (by omega) ?_ ?_
    · rintro j s hj ⟨rfl, hq⟩
      obtain ⟨t1, t2⟩ := hR.1 j hj
      have e1 : nI (T j) - 97 = nI (T j - 97) := by rw [L_97, pk_sub t1]
      have e2 : M_isIn (nI S) (nI (T j) - 97) = if S.testBit (T j - 97) = true then 1 else 0 := by rw [e1]; exact M_isIn_eq (by omega) (by omega)
      have r1 : rd τ 60 (nI j) = some (nI (T j)) := by rw [rdT (N := 8) rfl (by omega) (by omega), hT j hj]
      by_cases c : S.testBit (T j - 97) = true
      · right
        refine ⟨nI j, ?_, j, hj, c, hq, rfl⟩
        unfold M_placeOf_b1
        refine ob r1 ?_
        exact ifn (by rw [e2, if_pos c]; decide) rfl
      · left
        refine ⟨nI (j + 1), ?_, rfl, fun q hq2 => ?_⟩
        · unfold M_placeOf_b1
          refine ob r1 ?_
          refine ifp (by rw [e2, if_neg c]) ?_
          exact lti (nI_1 _) rfl
        · rcases Nat.lt_or_ge q j with h | h
          · exact hq q h
          · rw [show q = j by omega]; exact Bool.eq_false_iff.mpr c
    · rintro s ⟨rfl, hq⟩
      have := hq p0 hp0
      rw [this] at hb0
      cases hb0
  obtain ⟨r, e, p, a1, a2, a3, rfl⟩ := key
  refine ⟨p, a1, a2, a3, ?_⟩
  unfold M_placeOf
  exact ob e rfl
theorem M_wayTold_ok {τ : Mem} {kd : Nat → Bool} {ch : Nat → List Nat} {st : Nat → Nat} {L : List Nat} (hA : NdA τ kd ch st L) {at_ N m : Nat} (hat : at_ < L.length) (hL : L.length ≤ 7) (hN : N = L.getD at_ 0) (hm : m = (ch N).length) (hm1 : 1 ≤ m) (hm8 : m ≤ 8) (Q : Nat → Nat) (hQ : ∀ k, k < m → M_placeOf (nI (st ((ch N).getD k 0))) τ = some (nI (Q k)) ∧ Q k < 8) (hI : ∀ i j, i < m → j < m → Q i = Q j → i = j) : M_wayTold (nI at_) τ = some (nI (cmpW m Q (kd N))) := by
  obtain ⟨n1, n2, n3, n4⟩ := hA at_ hat
  rw [← hN] at n2 n3 n4
  rw [← hm] at n3 n4
  have rp : ∀ k, k < m → rd τ 52 (nI (8 * at_) + nI k) = some (nI (st ((ch N).getD k 0))) := fun k hk => by
    rw [nI_add, rdT (N := 64) rfl (by omega) (by omega), n4 k hk]
  have lb1 : ∀ k, k < m → lp (fun s => M_wayTold_b1 τ (nI m) (nI (8 * at_)) (nI k) s.1 s.2) fuel (0, 0) = some (nI (ahd m Q k)) := fun k hk => by
    have key : ∃ r, lp (fun s => M_wayTold_b1 τ (nI m) (nI (8 * at_)) (nI k) s.1 s.2) fuel (0, 0) = some r ∧ r = nI (ahd m Q k) := by
      refine lp_for m (fun j s => s = (nI ((List.range j).filter (fun i => decide (Q i < Q k))).length, nI j)) _ _ 0 (by omega) rfl (by omega) ?_ ?_
      · intro j s hj e
        subst e
        left
        refine ⟨_, ?_, rfl⟩
        show M_wayTold_b1 τ (nI m) (nI (8 * at_)) (nI k) _ (nI j) = _
        unfold M_wayTold_b1
        have hQj := (hQ j hj).2
        have hQk := (hQ k hk).2
        refine ifn (nI_ge hj (by omega)) ?_
        refine ob (rp j hj) ?_
        refine ob (hQ j hj).1 ?_
        refine ob (rp k hk) ?_
        refine ob (hQ k hk).1 ?_
        refine lti (b := nI (if Q j < Q k then 1 else 0)) ?_ ?_
        · by_cases q : Q k ≤ Q j
          · rw [if_pos (nI_le q (by omega)), if_neg (by omega)]; rfl
          · rw [if_neg (nI_ge (by omega) (by omega)), if_pos (by omega)]; rfl
        refine lti (b := nI ((List.range (j + 1)).filter (fun i => decide (Q i < Q k))).length) ?_ (lti (nI_1 _) rfl)
        rw [nI_add, filt_s]
        simp only [decide_eq_true_eq]
      · intro s e
        subst e
        refine ⟨_, ?_, rfl⟩
        show M_wayTold_b1 τ (nI m) (nI (8 * at_)) (nI k) _ (nI m) = _
        unfold M_wayTold_b1
        exact ifp (nI_le (Nat.le_refl _) (by omega)) rfl
    obtain ⟨r, e, rfl⟩ := key
    exact e
  have lb3 : ∀ k, k < m → lp (fun s => M_wayTold_b3 τ (nI (8 * at_)) (nI k) s.1 s.2) fuel (0, 0) = some (nI (bhd Q k)) := fun k hk => by
    have key : ∃ r, lp (fun s => M_wayTold_b3 τ (nI (8 * at_)) (nI k) s.1 s.2) fuel (0, 0) = some r ∧ r = nI (bhd Q k) := by
      refine lp_for k (fun j s => s = (nI ((List.range j).filter (fun i => decide (Q k < Q i))).length, nI j)) _ _ 0 (by omega) rfl (by omega) ?_ ?_
      · intro j s hj e
        subst e
        left
        refine ⟨_, ?_, rfl⟩
        show M_wayTold_b3 τ (nI (8 * at_)) (nI k) _ (nI j) = _
        unfold M_wayTold_b3
        have hQj := (hQ j (by omega)).2
        have hQk := (hQ k hk).2
        refine ifn (nI_ge hj (by omega)) ?_
        refine ob (rp j (by omega)) ?_
        refine ob (hQ j (by omega)).1 ?_
        refine ob (rp k hk) ?_
        refine ob (hQ k hk).1 ?_
        refine lti (b := nI (if Q k < Q j then 1 else 0)) ?_ ?_
        · by_cases q : Q j ≤ Q k
          · rw [if_pos (nI_le q (by omega)), if_neg (by omega)]; rfl
          · rw [if_neg (nI_ge (by omega) (by omega)), if_pos (by omega)]; rfl
        refine lti (b := nI ((List.range (j + 1)).filter (fun i => decide (Q k < Q i))).length) ?_ (lti (nI_1 _) rfl)
        rw [nI_add, filt_s]
        simp only [decide_eq_true_eq]
      · intro s e
        subst e
        refine ⟨_, ?_, rfl⟩
        show M_wayTold_b3 τ (nI (8 * at_)) (nI k) _ (nI k) = _
        unfold M_wayTold_b3
        exact ifp (nI_le (Nat.le_refl _) (by omega)) rfl
    obtain ⟨r, e, rfl⟩ := key
    exact e
  have lb2 : ∀ i, i < m → ∃ k, k < m ∧ ahd m Q k = i ∧ lp (fun s => M_wayTold_b2 τ (nI m) (nI (8 * at_)) (nI i) s.1 s.2) fuel (0, 0) = some (nI k) := fun i hi => by
    obtain ⟨k, hk, ek⟩ := ahd_sur hI i hi
    refine ⟨k, hk, ek, ?_⟩
    have key : ∃ r, lp (fun s => M_wayTold_b2 τ (nI m) (nI (8 * at_)) (nI i) s.1 s.2) fuel (0, 0) = some r ∧ r = nI k := by
      refine lp_for m (fun j s => ∃ x, s = (nI x, nI j) ∧ (k < j → x = k)) _ _ 0 (by omega) ⟨0, rfl, fun h => by omega⟩ (by omega) ?_ ?_
      · rintro j s hj ⟨x, rfl, hx⟩
        left
        have ha := ahd_lt (m := m) (P := Q) hj
        by_cases c : ahd m Q j = i
        · have ejk : j = k := ahd_inj hI j k hj hk (by omega)
          refine ⟨(nI j, nI (j + 1)), ?_, j, rfl, fun _ => ejk⟩
          show M_wayTold_b2 τ (nI m) (nI (8 * at_)) (nI i) (nI x) (nI j) = _
          unfold M_wayTold_b2
          refine ifn (nI_ge hj (by omega)) ?_
          refine ob (lb1 j hj) ?_
          exact lti (if_pos (by rw [c])) (lti (nI_1 _) rfl)
        · refine ⟨(nI x, nI (j + 1)), ?_, x, rfl, fun h => hx ?_⟩
          · show M_wayTold_b2 τ (nI m) (nI (8 * at_)) (nI i) (nI x) (nI j) = _
            unfold M_wayTold_b2
            refine ifn (nI_ge hj (by omega)) ?_
            refine ob (lb1 j hj) ?_
            exact lti (if_neg (nI_ne (by omega) (by omega) c)) (lti (nI_1 _) rfl)
          · have : j ≠ k := fun e => c (by rw [e]; exact ek)
            omega
      · rintro s ⟨x, rfl, hx⟩
        refine ⟨nI x, ?_, by rw [hx hk]⟩
        show M_wayTold_b2 τ (nI m) (nI (8 * at_)) (nI i) (nI x) (nI m) = _
        unfold M_wayTold_b2
        exact ifp (nI_le (Nat.le_refl _) (by omega)) rfl
    obtain ⟨r, e, rfl⟩ := key
    exact e
  have e8 : (8 : Int32) * nI at_ = nI (8 * at_) := by rw [L_8, xI_mul]
  have r51 : rd τ 51 (nI at_) = some (nI m) := by rw [rdT (N := 8) rfl (by omega) (by omega), n3]
  have r50 : rd τ 50 (nI at_) = some (if kd N = true then 1 else 0) := by rw [rdT (N := 8) rfl (by omega) (by omega), n2]
  unfold M_wayTold
  refine ob r51 ?_
  refine lti e8 ?_
  refine ob r50 ?_
  cases hk : kd N
  · refine ifn (by decide) ?_
    let κ : Nat → Nat := fun i => if h : i < m then Classical.choose (lb2 i h) else 0
    have hκ : ∀ i, i < m → κ i < m ∧ ahd m Q (κ i) = i ∧ lp (fun s => M_wayTold_b2 τ (nI m) (nI (8 * at_)) (nI i) s.1 s.2) fuel (0, 0) = some (nI (κ i)) := fun i hi => by
      have e : κ i = Classical.choose (lb2 i hi) := dif_pos hi
      rw [e]
      exact Classical.choose_spec (lb2 i hi)
    have l4 : ∃ r, lp (fun s => M_wayTold_b4 τ (nI m) (nI (8 * at_)) s.1 s.2) fuel (0, 0) = some r ∧ r = nI (sumR m (fun i => bhd Q (κ i) * fac (m - 1 - i))) := by
      refine lp_for m (fun j s => s = (nI (sumR j (fun i => bhd Q (κ i) * fac (m - 1 - i))), nI j)) _ _ 0 (by omega) rfl (by omega) ?_ ?_
      · intro j s hj e
        subst e
        left
        refine ⟨_, ?_, rfl⟩
        show M_wayTold_b4 τ (nI m) (nI (8 * at_)) (nI (sumR j (fun i => bhd Q (κ i) * fac (m - 1 - i)))) (nI j) = _
        obtain ⟨k1, k2, k3⟩ := hκ j hj
        unfold M_wayTold_b4
        refine ifn (nI_ge hj (by omega)) ?_
        refine ob k3 ?_
        refine ob (lb3 _ k1) ?_
        refine ob (a := nI (fac (m - 1 - j))) ?_ ?_
        · show M_factorial (nI m - 1 - nI j) = _
          rw [zz_dec (by omega), pk_sub (by omega)]
          exact M_fac (by omega)
        · refine lti (b := nI (sumR (j + 1) (fun i => bhd Q (κ i) * fac (m - 1 - i)))) ?_ (lti (nI_1 _) rfl)
          rw [xI_mul, nI_add, sumR_s]
      · intro s e
        subst e
        refine ⟨_, ?_, rfl⟩
        show M_wayTold_b4 τ (nI m) (nI (8 * at_)) (nI (sumR m (fun i => bhd Q (κ i) * fac (m - 1 - i)))) (nI m) = _
        unfold M_wayTold_b4
        exact ifp (nI_le (Nat.le_refl _) (by omega)) rfl
    obtain ⟨r, e, rfl⟩ := l4
    refine ob e ?_
    show some _ = some (nI (wayN m Q))
    rw [wayN_re (fun i hi => ⟨(hκ i hi).1, (hκ i hi).2.1⟩)]
  · refine ifp rfl ?_
    have rp0 : rd τ 52 (nI (8 * at_)) = some (nI (st ((ch N).getD 0 0))) := by rw [rdT (N := 64) rfl (by omega) (by omega)]; exact congrArg some (n4 0 (by omega))
    have rp1 : rd τ 52 (nI (8 * at_) + nI m - 1) = some (nI (st ((ch N).getD (m - 1) 0))) := by
      rw [nI_add, zz_dec (by omega), show 8 * at_ + m - 1 = 8 * at_ + (m - 1) by omega, ← nI_add]
      exact rp (m - 1) (by omega)
    refine ob rp0 ?_
    refine ob (hQ 0 (by omega)).1 ?_
    refine ob rp1 ?_
    refine ob (hQ (m - 1) (by omega)).1 ?_
    have h0 := (hQ 0 (by omega)).2
    have h1 := (hQ (m - 1) (by omega)).2
    refine lti (b := nI (cmpW m Q true)) ?_ rfl
    unfold cmpW
    rw [if_pos rfl]
    by_cases q : Q (m - 1) ≤ Q 0
    · rw [if_pos q, if_pos (nI_le q (by omega))]; rfl
    · rw [if_neg q, if_neg (nI_ge (by omega) (by omega))]; rfl
