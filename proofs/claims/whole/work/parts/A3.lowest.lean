def Pth (ch : Nat → List Nat) (st : Nat → Nat) (S N : Nat) : Nat → Nat → Prop
  | 0, id => id = N
  | k + 1, id => 8 ≤ id ∧ ∃ c ∈ ch id, subM S (st c) ∧ Pth ch st S N k c
theorem Pth.snoc {ch : Nat → List Nat} {st : Nat → Nat} {S N c : Nat} (h8 : 8 ≤ N) (hc : c ∈ ch N) (hs : subM S (st c)) : ∀ {k id : Nat}, Pth ch st S N k id → Pth ch st S c (k + 1) id
  | 0, id, h => by
    have h : id = N := h
    subst h
    exact ⟨h8, c, hc, hs, rfl⟩
  | k + 1, id, h => by
    obtain ⟨a, e, he, hse, hp⟩ := h
    exact ⟨a, e, he, hse, Pth.snoc h8 hc hs hp⟩
theorem pcs_mem {st : Nat → Nat} {c : Nat} : ∀ {L : List Nat}, c ∈ L → (∀ e ∈ L, st e < 256 ∧ st e ≠ 0) → pc8 (st c) + L.length ≤ pcs st L + 1
  | e :: L, hc, h => by
    rw [List.mem_cons] at hc
    show pc8 (st c) + (L.length + 1) ≤ pc8 (st e) + pcs st L + 1
    rcases hc with hc | hc
    · subst hc
      have := pcs_len (st := st) (L := L) (fun d hd => h d (by simp [hd])); omega
    · have := pcs_mem hc (fun d hd => h d (by simp [hd]))
      have := pc_pos _ (h e (by simp)).1 (h e (by simp)).2
      omega
section
variable {σ : Mem} {t : Nat} {kd : Nat → Bool} {ch : Nat → List Nat} {st : Nat → Nat}
theorem low_inner (h : AT σ t kd ch st) (ht : isT t) {node S : Nat} (hn : node < 24) (hC : ∀ c ∈ ch node, Us ch c) (hS : S < 256) : ∃ r, lp (fun s => T_lowestWith_b1 t (nI S) σ (nI node) s.1 s.2) fuel ((-1), 0) = some r ∧ ((r = -1 ∧ ∀ c ∈ ch node, ¬ subM S (st c)) ∨ ∃ c ∈ ch node, r = nI c ∧ subM S (st c)) := by
  have hlen := (h node hn).1
  refine lp_for (ch node).length (fun j s => s.2 = nI j ∧ ((s.1 = -1 ∧ ∀ c ∈ (ch node).take j, ¬ subM S (st c)) ∨ ∃ c ∈ ch node, s.1 = nI c ∧ subM S (st c))) _ _ 0 (by omega) ⟨rfl, Or.inl ⟨rfl, by simp⟩⟩ (by omega) ?_ ?_
  · intro j s hj ⟨e2, hD⟩
    obtain ⟨s1, s2⟩ := s
    simp only at e2 hD
    subst e2
    left
    have hm := getD_mem hj
    have h24 := h.lt24 hn hm
    have r2 := h.part ht hn hj
    have r3 := h.set ht h24 (hC _ hm)
    have hlt := sd_lt (X := st ((ch node).getD j 0)) hS
    by_cases c : subM S (st ((ch node).getD j 0))
    · refine ⟨(nI ((ch node).getD j 0), nI (j + 1)), ?_, rfl, Or.inr ⟨_, hm, rfl, c⟩⟩
      unfold T_lowestWith_b1
      refine ob (h.size ht hn) ?_
      refine ifn (nI_ge hj (by omega)) ?_
      refine ob r2 ?_
      refine ob r3 ?_
      refine ob (a := nI ((ch node).getD j 0)) ?_ (lti (nI_1 _) rfl)
      refine ifp ?_ (ob r2 rfl)
      rw [xI_diff, sd_sub.mpr c]; rfl
    · refine ⟨(s1, nI (j + 1)), ?_, rfl, ?_⟩
      · unfold T_lowestWith_b1
        refine ob (h.size ht hn) ?_
        refine ifn (nI_ge hj (by omega)) ?_
        refine ob r2 ?_
        refine ob r3 ?_
        refine ob (a := s1) ?_ (lti (nI_1 _) rfl)
        refine ifn ?_ rfl
        rw [xI_diff]
        have : sd S (st ((ch node).getD j 0)) ≠ 0 := fun e => c (sd_sub.mp e)
        exact nI_ne0 (by omega) (by omega)
      · rcases hD with ⟨d1, d2⟩ | d
        · left
          refine ⟨d1, fun e he => ?_⟩
          rw [take_succ' hj, List.mem_append, List.mem_singleton] at he
          rcases he with he | he
          · exact d2 e he
          · rw [he]; exact c
        · exact Or.inr d
  · intro s ⟨e2, hD⟩
    obtain ⟨s1, s2⟩ := s
    simp only at e2 hD
    subst e2
    rw [List.take_length] at hD
    refine ⟨s1, ?_, hD⟩
    unfold T_lowestWith_b1
    refine ob (h.size ht hn) ?_
    exact ifp (nI_le (Nat.le_refl _) (by omega)) rfl
theorem AT.lowest (h : AT σ t kd ch st) (ht : isT t) {root D S : Nat} (h4 : σ t 4 = nI root) (hr : root < 24) (hw : WfD kd ch st D root) (hs : subM S (st root)) (h2 : two S) (hS : S < 256) : ∃ N k, T_lowestWith t (nI S) σ = some (nI N) ∧ Pth ch st S N k root ∧ WfD kd ch st D N ∧ 8 ≤ N ∧ N < 24 ∧ subM S (st N) ∧ (∀ c ∈ ch N, ¬ subM S (st c)) ∧ N ∈ ndD ch D root := by
  have h8 : ∀ N, WfD kd ch st D N → subM S (st N) → 8 ≤ N := fun N hw hs => by
    by_cases q : N < 8
    · exfalso
      have e := (Wf_leaf q).mp ⟨D, hw⟩
      obtain ⟨i, j, hij, hi, hj⟩ := h2
      have a := hs i hi; have b := hs j hj
      rw [e, Nat.testBit_two_pow] at a b
      simp at a b; omega
    · omega
  have hrr := h8 root hw hs
  have hpr := pc_le (st root) (node_ok h hw hrr hr).2.2.2.1
  have key : ∃ r, lp (fun s => T_lowestWith_b2 t (nI S) σ s.1 s.2) fuel (nI root, 0) = some r ∧ ∃ N k, r = .inl (nI N) ∧ Pth ch st S N k root ∧ WfD kd ch st D N ∧ 8 ≤ N ∧ N < 24 ∧ subM S (st N) ∧ (∀ c ∈ ch N, ¬ subM S (st c)) ∧ N ∈ ndD ch D root := by
    refine lp_for 8 (fun j s => ∃ N, s.1 = nI N ∧ s.2 = nI j ∧ Pth ch st S N j root ∧ WfD kd ch st D N ∧ N < 24 ∧ subM S (st N) ∧ N ∈ ndD ch D root ∧ j + pc8 (st N) ≤ 8) _ _ 0 (by omega) ⟨root, rfl, rfl, rfl, hw, hr, hs, nd_self hw hrr, by omega⟩ (by omega) ?_ ?_
    · intro j s hj ⟨N, e1, e2, hp, hwN, hN, hsN, hin, hpc⟩
      obtain ⟨s1, s2⟩ := s
      simp only at e1 e2
      subst e1 e2
      have hN8 := h8 N hwN hsN
      obtain ⟨hne, hl2, hl8, hs256, hD, hor, d', hd', hch⟩ := node_ok h hwN hN8 hN
      obtain ⟨r, l1, l2⟩ := low_inner (S := S) h ht hN (fun c hc => (hch c hc).2.2.1) hS
      have hg : ¬ (8 : Int32) ≤ nI j := nI_ge (b := 8) hj (by omega)
      rcases l2 with ⟨g1, g2⟩ | ⟨c, hc, g1, g2⟩
      · right
        refine ⟨_, ?_, N, j, rfl, hp, hwN, hN8, hN, hsN, g2, hin⟩
        unfold T_lowestWith_b2
        refine ifn hg ?_
        refine ob l1 ?_
        exact ifp g1 rfl
      · left
        obtain ⟨c1, c2, c3, c4, c5⟩ := hch c hc
        refine ⟨(nI c, nI (j + 1)), ?_, c, rfl, rfl, hp.snoc hN8 hc g2, ?_, c2, g2, ?_, ?_⟩
        · unfold T_lowestWith_b2
          refine ifn hg ?_
          refine ob l1 ?_
          rw [g1]
          refine ifn (nI_nm1 (by omega)) ?_
          exact lti (nI_1 _) rfl
        · exact WfD_mono c1 (by omega)
        · exact nd_child D root hw N hin c hc (h8 c (WfD_mono c1 (by omega)) g2)
        · have := pcs_mem hc (fun e he => (hch e he).2.2.2)
          rw [hor, pcs_or hD] at hpc
          omega
    · intro s ⟨N, e1, e2, hp, hwN, hN, hsN, hin, hpc⟩
      have hN8 := h8 N hwN hsN
      obtain ⟨hne, hl2, hl8, hs256, hD, hor, d', hd', hch⟩ := node_ok h hwN hN8 hN
      have := pc_pos (st N) hs256 (Wf_ne0 N ⟨D, hwN⟩)
      omega
  obtain ⟨r, k1, N, k, k2, k3⟩ := key
  refine ⟨N, k, ?_, k3⟩
  unfold T_lowestWith
  refine lti h4 ?_
  refine ob k1 ?_
  rw [k2]; rfl
end
