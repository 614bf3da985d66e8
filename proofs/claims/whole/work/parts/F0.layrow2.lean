section
variable {σ : Mem} {kd : Nat → Bool} {ch : Nat → List Nat} {st : Nat → Nat} {root : Nat}
theorem T_layRow_ok (h : DR σ 10 kd ch st root) {c num : Nat} (hc : c = (ndD ch 8 root).length) (hnum : num < 2 ^ 31) : ∃ τ, T_layRow 10 (nI num) 4 σ = some τ ∧ (∀ p, p < (rwD kd ch (dgF (wyF kd ch) c num) 8 root).length → τ 4 p = nI ((rwD kd ch (dgF (wyF kd ch) c num) 8 root).getD p 0)) ∧ (rwD kd ch (dgF (wyF kd ch) c num) 8 root).length = pc8 (st root) ∧ ∀ k, k ≠ 4 → k ≠ 18 → k ≠ 20 → τ k = σ k := by
  obtain ⟨c', e1, f1, f2, f3, f4, f5, f6⟩ := h.facts
  have e1 : c' = c := by rw [e1, hc]
  subst e1
  obtain ⟨f, d1, d2⟩ := lay_digits h isT10 hc hnum
  have hAr := h.1.2.1
  have hr24 := h.1.2.2.1
  have hwr := h.2.1
  have keep : ∀ x y, DR (mset (mset σ 20 x) 18 y) 10 kd ch st root := fun x y => by
    obtain ⟨⟨b1, b2, b3, b4, b5, b6, hd, b7⟩, b8, b9, b10, b11⟩ := h
    have ek : ∀ k, k ≠ 18 → k ≠ 20 → (mset (mset σ 20 x) 18 y) k = σ k := fun k q1 q2 => by rw [mset_ne q1, mset_ne q2]
    exact ⟨⟨b1.same (ek _ (by omega) (by omega)) (ek _ (by omega) (by omega)) (ek _ (by omega) (by omega)) (ek _ (by omega) (by omega)), by rw [ek 10 (by omega) (by omega)]; exact b2, b3, b4, fun i hi => by rw [ek 19 (by omega) (by omega)]; exact b5 i hi, b6, hd, by rw [ek 10 (by omega) (by omega)]; exact b7.1, by rw [ek 16 (by omega) (by omega)]; exact b7.2⟩, b8, b9, by rw [ek 10 (by omega) (by omega)]; exact b10, b11⟩
  have h20 : mset (mset σ 20 f) 18 (σ 18) = mset σ 20 f := by
    have : σ 18 = (mset σ 20 f) 18 := by rw [mset_ne (by omega)]
    rw [this, mset_self]
  have hD1 : DR (mset σ 20 f) 10 kd ch st root := by have := keep f (σ 18); rwa [h20] at this
  have hdg : ∀ i, 8 ≤ i → i < 8 + c' → (mset σ 20 f) (10 + 10) i = nI (dgF (wyF kd ch) c' num i) ∧ dgF (wyF kd ch) c' num i < wyF kd ch i := fun i q1 q2 => ⟨by show (mset σ 20 f) 20 i = _; rw [mset_eq]; exact d2 i q1 q2, Nat.mod_lt _ wyF_pos⟩
  obtain ⟨g, g1, g2⟩ := lay_starts hD1 isT10 hc hdg (upd (σ 18) root 0) (by rw [pk_us]; rfl) rfl
  have g1 : lp (fun s => T_layRow_b2 10 s.1 s.2) fuel (8, mset (mset σ 20 f) 18 (upd (σ 18) root 0)) = some (mset (mset σ 20 f) 18 g) := g1
  have h256r : st root < 256 := ((h.1.1 root hr24).2.2.2.1 (us_wf h.1.2.2.2.1)).1
  have hall : ∀ i ∈ ndD ch 8 root, (ch i).length ≤ 8 ∧ dgF (wyF kd ch) c' num i < wys (kd i) (ch i).length := fun i hi => by
    obtain ⟨u1, u2⟩ := (f3 i).mp hi
    exact ⟨(f6 i u1 u2).2.2.2.1, (hdg i u1 u2).2⟩
  obtain ⟨R1, R2, R3⟩ := rwD_len hwr hall h256r
  generalize hR : rwD kd ch (dgF (wyF kd ch) c' num) 8 root = R at *
  have hRl : R.length ≤ 8 := by rw [R1]; exact pc_le _ h256r
  have hpos : ∀ x, (st root).testBit x = true → ∃ s, g x = nI s ∧ s < R.length ∧ R.getD s 0 = x := fun x hx => by
    have hx8 := bit_lt8 h256r hx
    obtain ⟨s, s1, pre, post, e, s2⟩ := g2 x (leaf_par 8 root hwr x hx)
    have hl : rwD kd ch (dgF (wyF kd ch) c' num) 8 x = [x] := by unfold rwD; rw [if_pos hx8]
    rw [hl] at e
    refine ⟨s, s1, ?_, ?_⟩
    · rw [e, List.length_append, s2]; simp
    · rw [e, List.getD_eq_getElem?_getD, List.getElem?_append_right (by omega), s2, Nat.sub_self]; rfl
  have hinj : ∀ p q, p < R.length → q < R.length → R.getD p 0 = R.getD q 0 → p = q := fun p q hp hq e => by
    refine Classical.byContradiction (fun hne => ?_)
    unfold List.Nodup at R2
    rw [List.pairwise_iff_getElem] at R2
    rw [List.getD_eq_getElem?_getD, List.getD_eq_getElem?_getD, List.getElem?_eq_getElem hp, List.getElem?_eq_getElem hq] at e
    have e : R[p] = R[q] := e
    rcases Nat.lt_or_gt_of_ne hne with w | w
    · exact R2 p q hp hq w e
    · exact R2 q p hq hp w e.symm
  have hD2 := keep f g
  have key : ∃ r, lp (fun s => T_layRow_b3 10 4 s.1 s.2) fuel (0, mset (mset σ 20 f) 18 g) = some r ∧ ∃ u, r = mset (mset (mset σ 20 f) 18 g) 4 u ∧ ∀ p, p < R.length → u p = nI (R.getD p 0) := by
    refine lp_for 8 (fun j z => ∃ u, z = (nI j, mset (mset (mset σ 20 f) 18 g) 4 u) ∧ ∀ p, p < R.length → R.getD p 0 < j → u p = nI (R.getD p 0)) _ _ 0 (by omega) ⟨_, by rw [mset_self]; rfl, fun p _ hp => by omega⟩ (by omega) ?_ ?_
    · intro j z hj ⟨u, e, hu⟩
      subst e
      left
      have e10 : (mset (mset (mset σ 20 f) 18 g) 4 u) 10 4 = nI root := by rw [mset_ne (by omega), mset_ne (by omega), mset_ne (by omega)]; exact hAr
      have er : rd (mset (mset (mset σ 20 f) 18 g) 4 u) (10 + 2) (nI root) = some (nI (st root)) := by
        rw [rdT (lnT2 isT10) hr24 (by omega), mset_ne (by omega)]
        have := hD2.1.1.set isT10 hr24 (us_wf h.1.2.2.2.1)
        rw [rdT (lnT2 isT10) hr24 (by omega)] at this
        exact this
      have hg : ¬ (8 : Int32) ≤ nI j := nI_ge (b := 8) hj (by omega)
      by_cases cb : (st root).testBit j = true
      · obtain ⟨s, s1, s2, s3⟩ := hpos j cb
        have hnz : ¬ ((nI (st root) >>> (nI j &&& 31)) &&& 1) = 0 := fun w => by rw [tst_bit (by omega) (by omega)] at w; rw [w] at cb; cases cb
        refine ⟨(nI (j + 1), mset (mset (mset σ 20 f) 18 g) 4 (upd u s (nI j))), ?_, _, rfl, fun p hp hpj => ?_⟩
        · unfold T_layRow_b3
          refine ifn hg ?_
          refine ob (a := nI (st root)) (by show rd _ (10 + 2) ((mset (mset (mset σ 20 f) 18 g) 4 u) 10 4) = _; rw [e10]; exact er) ?_
          refine ob (a := mset (mset (mset σ 20 f) 18 g) 4 (upd u s (nI j))) ?_ (lti (nI_1 _) rfl)
          refine ifn hnz ?_
          refine ob (a := nI s) ?_ ?_
          · show rd (mset (mset (mset σ 20 f) 18 g) 4 u) 18 (nI j) = _
            rw [rdT (N := 24) rfl (by omega) (by omega), mset_ne (by omega), mset_eq, s1]
          · refine ob (a := mset (mset (mset σ 20 f) 18 g) 4 (upd u s (nI j))) ?_ rfl
            show T_setAt 4 (nI s) (nI j) (mset (mset (mset σ 20 f) 18 g) 4 u) = _
            rw [T_setAt_eq (N := 8) rfl (by omega) (by omega), mput_mset]
        · rw [upd_at]
          by_cases q : p = s
          · rw [if_pos q, q, s3]
          · rw [if_neg q]
            refine hu p hp ?_
            have : R.getD p 0 ≠ j := fun e => q (hinj p s hp s2 (by rw [e, s3]))
            omega
      · refine ⟨(nI (j + 1), mset (mset (mset σ 20 f) 18 g) 4 u), ?_, u, rfl, fun p hp hpj => ?_⟩
        · unfold T_layRow_b3
          refine ifn hg ?_
          refine ob (a := nI (st root)) (by show rd _ (10 + 2) ((mset (mset (mset σ 20 f) 18 g) 4 u) 10 4) = _; rw [e10]; exact er) ?_
          exact ob (a := mset (mset (mset σ 20 f) 18 g) 4 u) (ifp ((tst_bit (by omega) (by omega)).mpr (by simpa using cb)) rfl) (lti (nI_1 _) rfl)
        · refine hu p hp ?_
          have : R.getD p 0 ≠ j := fun e => cb ((R3 j).mp (by rw [← e]; exact getD_mem hp))
          omega
    · intro z ⟨u, e, hu⟩
      subst e
      refine ⟨_, ?_, u, rfl, fun p hp => hu p hp ?_⟩
      · unfold T_layRow_b3
        exact ifp (nI_le (a := 8) (by omega) (by omega)) rfl
      · exact bit_lt8 h256r ((R3 _).mp (getD_mem hp))
  obtain ⟨r, l1, u, l2, l3⟩ := key
  refine ⟨mset (mset (mset σ 20 f) 18 g) 4 u, ?_, fun p hp => by rw [mset_eq]; exact l3 p hp, R1, fun k q1 q2 q3 => by rw [mset_ne q1, mset_ne q2, mset_ne q3]⟩
  unfold T_layRow
  refine lti (b := nI (8 + c' - 1)) (by rw [f2, L_8, nI_add, zz_dec (by omega)]) ?_
  refine ob d1 ?_
  have e4 : (mset σ 20 f) 10 4 = nI root := by rw [mset_ne (by omega)]; exact hAr
  refine ob (a := mset (mset σ 20 f) 18 (upd (σ 18) root 0)) ?_ ?_
  · show wr (mset σ 20 f) 18 ((mset σ 20 f) 10 4) 0 = _
    rw [e4, wrT (N := 24) rfl hr24 (by omega)]
    unfold mput
    rw [mset_ne (by omega)]
  refine ob g1 ?_
  refine ob l1 ?_
  rw [l2]
end
