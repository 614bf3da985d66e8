/-- findsTree's loop shows the whole text and makes all nodes -/
theorem ft_loop {σ0 σ : Mem} {kd : Nat → Bool} {ch : Nat → List Nat} {st : Nat → Nat} {D root n : Nat} (htc : TC σ0 kd ch st D root n) (hcan : ∀ N ∈ ndD ch D root, Can kd ch st N) {T L : List Nat} {R : List (Nat ⊕ Nat)} (h : FTI σ0 σ kd ch st D root T L R) : ∃ r, lp (fun s => M_findsTree_b2 s.1 s.2) fuel (nI R.length, σ) = some r ∧ FTI σ0 r kd ch st D root (txD kd ch D root) (ndD ch D root) [] := by
  have hwr : WfD kd ch st D root := htc.2.1
  have hN : (txD kd ch D root).length ≤ 22 := by
    obtain ⟨d, e⟩ := nd_lv D root hwr
    have f := lv_le8 hwr
    omega
  have hT0 : T.length ≤ (txD kd ch D root).length := by rw [← h.2.2.2.2.2.2.2.2.1]; simp
  refine lp_for (txD kd ch D root).length (fun j s => ∃ T L R σ, s = (nI R.length, σ) ∧ FTI σ0 σ kd ch st D root T L R ∧ T.length = j) _ _ T.length hT0 ⟨T, L, R, σ, rfl, h, rfl⟩ (by omega) ?_ ?_
  · rintro j s hj ⟨T, L, R, σ, rfl, h, rfl⟩
    left
    have hlen := FTI.len h hwr
    rcases List.eq_nil_or_concat R with e | ⟨R0, x, e⟩
    · subst e
      have h9 := h.2.2.2.2.2.2.2.2.1
      simp at h9
      rw [h9] at hj
      omega
    · rw [List.concat_eq_append] at e
      subst e
      have hR : R0.length < 22 := by simp at hlen; omega
      have hT : T.length < 22 := by simp at hlen; omega
      have hl : (R0 ++ [x]).length = R0.length + 1 := by simp
      rw [hl]
      show ∃ s2, M_findsTree_b2 (nI (R0.length + 1)) σ = some (.inl s2) ∧ _
      have h8' := h.2.2.2.2.2.2.2.1
      rw [List.map_append] at h8'
      obtain ⟨-, p2⟩ := SgAt.pop (T := R0.map (enc st)) (x := enc st x) h8'
      rw [List.length_map] at p2
      have hok := h.2.2.2.2.2.2.2.2.2.2 x (by simp)
      cases x with
      | inr s =>
        obtain ⟨τ, e1, e2⟩ := ft_sign (s := s) h (by omega) rfl rfl
        exact ⟨_, ft_stepS (by omega) (hok.2 s rfl) p2 e1, T ++ [s], L, R0, τ, rfl, e2, by simp⟩
      | inl N =>
        obtain ⟨hw, hlt, hin⟩ := hok.1 N rfl
        by_cases c : N < 8
        · cases D with
          | zero => exact absurd hw (by simp [WfD])
          | succ E =>
            have hst : st N = 2 ^ N := by
              unfold WfD at hw
              rw [if_pos c] at hw
              exact hw
            obtain ⟨τ, e1, e2⟩ := ft_sign (s := 97 + N) h (by omega) (by show txD kd ch (E + 1) N = _; unfold txD; rw [if_pos c]) (by show ndD ch (E + 1) N = _; unfold ndD; rw [if_pos c])
            have p3 : σ 55 R0.length = nI (2 ^ N) := by rw [← hst]; exact p2
            exact ⟨_, ft_stepT (by omega) c p3 e1, T ++ [97 + N], L, R0, τ, rfl, e2, by simp⟩
        · obtain ⟨τ, R2, e1, e2⟩ := ft_node htc h (by omega) (hcan N (hin (by omega)))
          exact ⟨_, e1, T ++ [opS (kd N)], L ++ [N], R2, τ, rfl, e2, by simp⟩
  · rintro s ⟨T, L, R, σ, rfl, h, hj⟩
    have h9 := h.2.2.2.2.2.2.2.2.1
    have h10 := h.2.2.2.2.2.2.2.2.2.1
    have a := R_len (R := R.reverse) (fun x hx => h.2.2.2.2.2.2.2.2.2.2 x (by simpa using hx))
    have b := congrArg List.length h9
    rw [List.length_append] at b
    rw [List.length_reverse] at a
    have hR : R = [] := List.eq_nil_of_length_eq_zero (by omega)
    subst hR
    simp at h9 h10
    rw [h9, h10] at h
    refine ⟨σ, ?_, h⟩
    show M_findsTree_b2 (nI 0) σ = _
    unfold M_findsTree_b2
    exact ifp (by decide) rfl
