theorem M_nodeOf_eq {τ : Mem} {kd : Nat → Bool} {ch : Nat → List Nat} {st : Nat → Nat} {L : List Nat} (hA : NdA τ kd ch st L) (h7 : τ 43 7 = nI L.length) (hL : L.length ≤ 7) (hst : ∀ x ∈ L, st x < 256) (hinj : ∀ x ∈ L, ∀ y ∈ L, st x = st y → x = y) (hnd : L.Nodup) {j : Nat} (hj : j < L.length) : M_nodeOf (nI (st (L.getD j 0))) τ = some (nI j) := by
  have key : ∃ r, lp (fun s => M_nodeOf_b1 (nI (st (L.getD j 0))) τ s.1 s.2) fuel (-1, 0) = some r ∧ r = nI j := by
    refine lp_for L.length (fun k s => s.2 = nI k ∧ (j < k → s.1 = nI j)) _ _ 0 (by omega) ⟨rfl, fun q => by omega⟩ (by omega) ?_ ?_
    · intro k s hk ⟨e, hv⟩
      obtain ⟨v, s2⟩ := s
      simp only at e hv
      subst e
      left
      have r49 : rd τ 49 (nI k) = some (nI (st (L.getD k 0))) := by rw [rdT (N := 8) rfl (by omega) (by omega), (hA k hk).1]
      have hj2 := hst _ (getD_mem hj)
      have hk2 := hst _ (getD_mem hk)
      by_cases c : k = j
      · subst c
        refine ⟨(nI k, nI (k + 1)), ?_, rfl, fun _ => rfl⟩
        unfold M_nodeOf_b1
        refine ifn (by rw [h7]; exact nI_ge hk (by omega)) ?_
        refine ob r49 ?_
        refine lti (if_pos rfl) ?_
        exact lti (nI_1 _) rfl
      · refine ⟨(v, nI (k + 1)), ?_, rfl, fun q => hv (by omega)⟩
        unfold M_nodeOf_b1
        refine ifn (by rw [h7]; exact nI_ge hk (by omega)) ?_
        refine ob r49 ?_
        refine lti (if_neg (fun e => ?_)) (lti (nI_1 _) rfl)
        have e2 := hinj _ (getD_mem hk) _ (getD_mem hj) ((nI_eq (by omega) (by omega)).mp e)
        unfold List.Nodup at hnd
        rw [List.pairwise_iff_getElem] at hnd
        rw [List.getD_eq_getElem?_getD, List.getD_eq_getElem?_getD, List.getElem?_eq_getElem hk, List.getElem?_eq_getElem hj] at e2
        have e2 : L[k] = L[j] := e2
        rcases Nat.lt_or_gt_of_ne c with w | w
        · exact hnd k j hk hj w e2
        · exact hnd j k hj hk w e2.symm
    · intro s ⟨e, hv⟩
      obtain ⟨v, s2⟩ := s
      simp only at e hv
      subst e
      refine ⟨v, ?_, hv hj⟩
      unfold M_nodeOf_b1
      exact ifp (by rw [h7]; exact nI_le (Nat.le_refl _) (by omega)) rfl
  obtain ⟨r, k1, k2⟩ := key
  unfold M_nodeOf
  refine ob k1 ?_
  rw [k2]
theorem nd_st_inj {kd : Nat → Bool} {ch : Nat → List Nat} {st : Nat → Nat} {d root : Nat} (hw : WfD kd ch st d root) : ∀ x ∈ ndD ch d root, ∀ y ∈ ndD ch d root, st x = st y → x = y := fun x hx y hy e => by
  rcases nd_within d root hw y hy x hx (by rw [e]; exact fun _ h => h) with q | ⟨c, hc, -, hs⟩
  · exact q
  · exfalso
    obtain ⟨-, g2, g3⟩ := nd_sub d root hw y hy
    exact child_proper g3 g2 hc (by rw [← e]; exact hs)
