theorem bcl7 : ∀ k, k < 8 → (J_bitCount (nI (2 ^ k) - 1)) &&& 7 = nI k := by decide +kernel
theorem gD_inj {C : List Nat} (hn : C.Nodup) {i j : Nat} (hi : i < C.length) (hj : j < C.length) (e : C.getD i 0 = C.getD j 0) : i = j := by
  have hnp : C.Pairwise (· ≠ ·) := hn
  rw [List.pairwise_iff_getElem] at hnp
  rw [List.getD_eq_getElem?_getD, List.getD_eq_getElem?_getD, List.getElem?_eq_getElem hi, List.getElem?_eq_getElem hj] at e
  have e : C[i] = C[j] := e
  refine Classical.byContradiction (fun hne2 => ?_)
  rcases Nat.lt_or_gt_of_ne hne2 with h | h
  · exact hnp i j hi hj h e
  · exact hnp j i hj hi h e.symm
section
variable {σ : Mem} {t : Nat} {kd : Nat → Bool} {ch : Nat → List Nat} {st : Nat → Nat}
theorem AT.leastThing (h : AT σ t kd ch st) (ht : isT t) {id : Nat} (hid : id < 24) (hu : Us ch id) (h2 : st id < 256) (h0 : st id ≠ 0) : T_leastThing t (nI id) σ = some (nI (lst (st id))) := by
  unfold T_leastThing
  refine ob (h.least ht hid hu h0) ?_
  show some _ = some _
  rw [bcl7 _ (lst8 _ h2 h0)]
def cmpW (m : Nat) (P : Nat → Nat) (b : Bool) : Nat := if b = true then (if P (m - 1) ≤ P 0 then 1 else 0) else wayN m P
theorem T_wayOf_ok (hA : AT σ t kd ch st) (ht : isT t) {nd m : Nat} (hnd : nd < 24) (hm : m = (ch nd).length) (hm1 : 1 ≤ m) (hm8 : m ≤ 8) (hC : ∀ e ∈ ch nd, Us ch e ∧ st e < 256 ∧ st e ≠ 0 ∧ e < 24) (hN : (ch nd).Nodup) (P : Nat → Nat) (h5 : ∀ k, k < m → σ 5 (lst (st ((ch nd).getD k 0))) = nI (P k) ∧ P k < 8) (hP : ∀ i j, i < m → j < m → P i = P j → i = j) : ∃ g, T_wayOf t (nI nd) 5 σ = some (nI (cmpW m P (kd nd)), mset σ (t + 8) g) := by
  have t8 : (5 : Nat) ≠ t + 8 := by rcases ht with rfl | rfl | rfl <;> decide
  have child : ∀ k, k < m → (ch nd).getD k 0 ∈ ch nd := fun k hk => getD_mem (by omega)
  have hne : ch nd ≠ [] := fun e => by rw [e] at hm; simp at hm; omega
  have l1 : ∃ r, lp (fun s => T_wayOf_b1 t (nI nd) 5 (nI m) s.1 s.2) fuel (0, σ) = some r ∧ ∃ g, r = mset σ (t + 8) g ∧ ∀ i, i < m → g ((ch nd).getD i 0) = nI (P i) := by
    refine lp_for m (fun j s => ∃ g, s = (nI j, mset σ (t + 8) g) ∧ ∀ i, i < j → g ((ch nd).getD i 0) = nI (P i)) _ _ 0 (by omega) ⟨σ (t + 8), by rw [mset_self]; rfl, fun i hi => by omega⟩ (by omega) ?_ ?_
    · rintro j s hj ⟨g, rfl, hg⟩
      left
      obtain ⟨c1, c2, c3, c4⟩ := hC _ (child j hj)
      refine ⟨(nI (j + 1), mset σ (t + 8) (upd g ((ch nd).getD j 0) (nI (P j)))), ?_, _, rfl, fun i hi => ?_⟩
      · show T_wayOf_b1 t (nI nd) 5 (nI m) (nI j) (mset σ (t + 8) g) = _
        unfold T_wayOf_b1
        refine ifn (nI_ge hj (by omega)) ?_
        refine ob ((M8_at hA).part ht hnd (by omega)) ?_
        refine ob ((M8_at hA).leastThing ht c4 c1 c2 c3) ?_
        refine ob (a := nI (P j)) (by rw [rdT (N := 8) rfl (lst8 _ c2 c3) (by omega), mset_ne t8, (h5 j hj).1]) ?_
        refine ob (a := mset σ (t + 8) (upd g ((ch nd).getD j 0) (nI (P j)))) (by rw [wrT (lnT8 ht) c4 (by omega), mput_mset]) ?_
        exact lti (nI_1 _) rfl
      · rw [upd_at]
        by_cases q : (ch nd).getD i 0 = (ch nd).getD j 0
        · rw [if_pos q, gD_inj hN (by omega) (by omega) q]
        · rw [if_neg q]
          exact hg i (by
            refine Classical.byContradiction (fun h => q ?_)
            rw [show i = j by omega])
    · rintro s ⟨g, rfl, hg⟩
      refine ⟨_, ?_, g, rfl, hg⟩
      show T_wayOf_b1 t (nI nd) 5 (nI m) (nI m) (mset σ (t + 8) g) = _
      unfold T_wayOf_b1
      exact ifp (nI_le (Nat.le_refl _) (by omega)) rfl
  obtain ⟨τ, e1, g, rfl, hg⟩ := l1
  refine ⟨g, ?_⟩
  have pt : ∀ k, k < m → T_part t (nI nd) (nI k) (mset σ (t + 8) g) = some (nI ((ch nd).getD k 0)) := fun k hk => (M8_at hA).part ht hnd (by omega)
  have rs : ∀ k, k < m → rd (mset σ (t + 8) g) (t + 8) (nI ((ch nd).getD k 0)) = some (nI (P k)) := fun k hk => by
    rw [rdT (lnT8 ht) (hC _ (child k hk)).2.2.2 (by omega), mset_eq, hg k hk]
  have sz := hA.size ht hnd
  rw [← hm] at sz
  unfold T_wayOf
  refine ob sz ?_
  refine ob e1 ?_
  refine ob ((M8_at hA).kind ht hnd hne) ?_
  cases hk : kd nd
  · refine ifn (by decide) ?_
    have l2 : ∀ k, k < m → lp (fun s => T_wayOf_b2 t (nI nd) (nI m) (mset σ (t + 8) g) (nI k) s.1 s.2.1 s.2.2) fuel (0, 0, 0) = some (nI (ahd m P k), nI (bhd P k)) := fun k hk => by
      have key : ∃ r, lp (fun s => T_wayOf_b2 t (nI nd) (nI m) (mset σ (t + 8) g) (nI k) s.1 s.2.1 s.2.2) fuel (0, 0, 0) = some r ∧ r = (nI (ahd m P k), nI (bhd P k)) := by
        refine lp_for m (fun j s => s = (nI ((List.range j).filter (fun i => decide (P i < P k))).length, nI ((List.range (if j < k then j else k)).filter (fun i => decide (P k < P i))).length, nI j)) _ _ 0 (by omega) ?_ (by omega) ?_ ?_
        · have : (if 0 < k then 0 else k) = 0 := by
            by_cases q : 0 < k
            · rw [if_pos q]
            · rw [if_neg q]; omega
          rw [this]; rfl
        · intro j s hj e
          subst e
          left
          refine ⟨_, ?_, rfl⟩
          show T_wayOf_b2 t (nI nd) (nI m) (mset σ (t + 8) g) (nI k) _ _ (nI j) = _
          unfold T_wayOf_b2
          refine ifn (nI_ge hj (by omega)) ?_
          refine ob (pt j hj) ?_
          refine ob (rs j hj) ?_
          refine ob (pt k hk) ?_
          refine ob (rs k hk) ?_
          have hPj := (h5 j hj).2
          have hPk := (h5 k hk).2
          by_cases q : P k ≤ P j
          · have d1 : ((List.range (j + 1)).filter (fun i => decide (P i < P k))).length = ((List.range j).filter (fun i => decide (P i < P k))).length := by
              rw [filt_s, if_neg (by rw [decide_eq_true_iff]; omega)]; rfl
            by_cases q2 : k ≤ j
            · have d2 : (if j + 1 < k then j + 1 else k) = (if j < k then j else k) := by rw [if_neg (by omega), if_neg (by omega)]
              refine lti (b := (nI ((List.range j).filter (fun i => decide (P i < P k))).length, nI ((List.range (if j < k then j else k)).filter (fun i => decide (P k < P i))).length)) ?_ ?_
              · rw [if_pos (nI_le q (by omega)), if_pos (nI_le q2 (by omega))]
              · rw [d1, d2]
                exact lti rfl (lti rfl (lti (nI_1 _) rfl))
            · have hlt : P k < P j := by
                have : P k ≠ P j := fun e => q2 (by rw [hP k j hk hj e]; exact Nat.le_refl _)
                omega
              have d2 : ((List.range (if j + 1 < k then j + 1 else k)).filter (fun i => decide (P k < P i))).length = ((List.range (if j < k then j else k)).filter (fun i => decide (P k < P i))).length + 1 := by
                have e1 : (if j + 1 < k then j + 1 else k) = j + 1 := by
                  by_cases c : j + 1 < k
                  · rw [if_pos c]
                  · rw [if_neg c]; omega
                rw [e1, if_pos (show j < k by omega), filt_s, if_pos (decide_eq_true hlt)]
              refine lti (b := (nI ((List.range j).filter (fun i => decide (P i < P k))).length, nI (((List.range (if j < k then j else k)).filter (fun i => decide (P k < P i))).length + 1))) ?_ ?_
              · rw [if_pos (nI_le q (by omega)), if_neg (nI_ge (by omega) (by omega))]
                exact lti (nI_1 _) rfl
              · rw [d1, d2]
                exact lti rfl (lti rfl (lti (nI_1 _) rfl))
          · have d1 : ((List.range (j + 1)).filter (fun i => decide (P i < P k))).length = ((List.range j).filter (fun i => decide (P i < P k))).length + 1 := by
              rw [filt_s, if_pos (decide_eq_true (by omega))]
            have d2 : ((List.range (if j + 1 < k then j + 1 else k)).filter (fun i => decide (P k < P i))).length = ((List.range (if j < k then j else k)).filter (fun i => decide (P k < P i))).length := by
              by_cases c : j < k
              · have e1 : (if j + 1 < k then j + 1 else k) = j + 1 := by
                  by_cases c : j + 1 < k
                  · rw [if_pos c]
                  · rw [if_neg c]; omega
                rw [e1, if_pos c, filt_s, if_neg (by rw [decide_eq_true_iff]; omega)]; rfl
              · rw [if_neg c, if_neg (by omega)]
            refine lti (b := (nI (((List.range j).filter (fun i => decide (P i < P k))).length + 1), nI ((List.range (if j < k then j else k)).filter (fun i => decide (P k < P i))).length)) ?_ ?_
            · rw [if_neg (nI_ge (by omega) (by omega))]
              exact lti (nI_1 _) rfl
            · rw [d1, d2]
              exact lti rfl (lti rfl (lti (nI_1 _) rfl))
        · intro s e
          subst e
          refine ⟨_, ?_, rfl⟩
          show T_wayOf_b2 t (nI nd) (nI m) (mset σ (t + 8) g) (nI k) _ _ (nI m) = _
          unfold T_wayOf_b2
          refine ifp (nI_le (Nat.le_refl _) (by omega)) ?_
          rw [if_neg (show ¬ m < k by omega)]; rfl
      obtain ⟨r, e, rfl⟩ := key
      exact e
    have l3 : ∃ r, lp (fun s => T_wayOf_b3 t (nI nd) (nI m) (mset σ (t + 8) g) s.1 s.2) fuel (0, 0) = some r ∧ r = nI (wayN m P) := by
      refine lp_for m (fun j s => s = (nI (sumR j (fun k => bhd P k * fac (m - 1 - ahd m P k))), nI j)) _ _ 0 (by omega) rfl (by omega) ?_ ?_
      · intro j s hj e
        subst e
        left
        refine ⟨_, ?_, rfl⟩
        show T_wayOf_b3 t (nI nd) (nI m) (mset σ (t + 8) g) (nI (sumR j (fun k => bhd P k * fac (m - 1 - ahd m P k)))) (nI j) = _
        have ha := ahd_lt (m := m) (P := P) hj
        unfold T_wayOf_b3
        refine ifn (nI_ge hj (by omega)) ?_
        refine ob (l2 j hj) ?_
        refine lti rfl ?_
        refine lti rfl ?_
        refine ob (a := nI (fac (m - 1 - ahd m P j))) ?_ ?_
        · show O_factorial (nI m - 1 - nI (ahd m P j)) _ = _
          rw [zz_dec (by omega), pk_sub (by omega)]
          exact O_factorial_eq (by omega)
        · refine lti (b := nI (sumR (j + 1) (fun k => bhd P k * fac (m - 1 - ahd m P k)))) ?_ (lti (nI_1 _) rfl)
          show nI (sumR j (fun k => bhd P k * fac (m - 1 - ahd m P k))) + nI (bhd P j) * nI (fac (m - 1 - ahd m P j)) = _
          rw [xI_mul, nI_add, sumR_s]
      · intro s e
        subst e
        refine ⟨_, ?_, rfl⟩
        show T_wayOf_b3 t (nI nd) (nI m) (mset σ (t + 8) g) (nI (sumR m (fun k => bhd P k * fac (m - 1 - ahd m P k)))) (nI m) = _
        unfold T_wayOf_b3
        exact ifp (nI_le (Nat.le_refl _) (by omega)) rfl
    obtain ⟨r, e, rfl⟩ := l3
    exact ob e rfl
  · refine ifp rfl ?_
    refine ob (pt 0 (by omega)) ?_
    refine ob (rs 0 (by omega)) ?_
    refine ob (a := nI ((ch nd).getD (m - 1) 0)) ?_ ?_
    · show T_part t (nI nd) (nI m - 1) _ = _
      rw [zz_dec (by omega)]
      exact pt (m - 1) (by omega)
    refine ob (rs (m - 1) (by omega)) ?_
    have hPj := (h5 0 (by omega)).2
    have hPk := (h5 (m - 1) (by omega)).2
    refine lti (b := nI (cmpW m P true)) ?_ rfl
    unfold cmpW
    rw [if_pos rfl]
    by_cases q : P (m - 1) ≤ P 0
    · rw [if_pos q, if_pos (nI_le q (by omega))]; rfl
    · rw [if_neg q, if_neg (nI_ge (by omega) (by omega))]; rfl
end
