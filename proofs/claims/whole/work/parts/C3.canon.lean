section
variable {kd : Nat → Bool} {ch : Nat → List Nat} {st : Nat → Nat}
theorem ndD_node {d id : Nat} (h : ¬ id < 8) : ndD ch (d + 1) id = id :: (ch id).flatMap (ndD ch d) := by
  conv => lhs; unfold ndD
  rw [if_neg h]
theorem par_uniq : ∀ (d id : Nat), WfD kd ch st d id → ∀ p ∈ ndD ch d id, ∀ q ∈ ndD ch d id, ∀ c, c ∈ ch p → c ∈ ch q → p = q
  | 0, _, h => h.elim
  | d + 1, id, h => by
    intro p hp q hq c hcp hcq
    by_cases h8 : id < 8
    · unfold ndD at hp; rw [if_pos h8] at hp; simp at hp
    have hw := h
    unfold WfD at hw
    rw [if_neg h8] at hw
    obtain ⟨g1, g2, g3, gD, gW⟩ := hw
    have hwf : Wf kd ch st id := ⟨_, h⟩
    -- a part of the root that is a part of a node below
    have key : ∀ q e, e ∈ ch id → q ∈ ndD ch d e → c ∈ ch id → c ∈ ch q → False := fun q e he hqe hci hcq => by
      obtain ⟨a1, a2, a3⟩ := nd_sub d e (gW e he) q hqe
      have hcs := child_sub a3 a2 hcq
      have hwc : Wf kd ch st c := ((Wf_node a3).mp a2).2.2.2.2 c hcq
      have hce : c = e := by
        refine Dj_uniq gD hci he (fun h0 => ?_)
        obtain ⟨j, hj⟩ := Nat.exists_testBit_of_ne_zero (Wf_ne0 c hwc)
        exact and0_iff.mp h0 j hj (a1 j (hcs j hj))
      subst hce
      exact child_proper a3 a2 hcq a1
    rw [nd_in h8] at hp hq
    rcases hp with hp | ⟨e, he, hp⟩
    · rcases hq with hq | ⟨f, hf, hq⟩
      · rw [hp, hq]
      · subst hp; exact (key q f hf hq hcp hcq).elim
    · rcases hq with hq | ⟨f, hf, hq⟩
      · subst hq; exact (key p e he hp hcq hcp).elim
      · obtain ⟨a1, a2, a3⟩ := nd_sub d e (gW e he) p hp
        obtain ⟨b1, b2, b3⟩ := nd_sub d f (gW f hf) q hq
        have hwc : Wf kd ch st c := ((Wf_node a3).mp a2).2.2.2.2 c hcp
        have hef : e = f := by
          refine Dj_uniq gD he hf (fun h0 => ?_)
          obtain ⟨j, hj⟩ := Nat.exists_testBit_of_ne_zero (Wf_ne0 c hwc)
          exact and0_iff.mp h0 j (a1 j (child_sub a3 a2 hcp j hj)) (b1 j (child_sub b3 b2 hcq j hj))
        subst hef
        exact par_uniq d e (gW e he) p hp q hq c hcp hcq
theorem nd_infix : ∀ (d id i : Nat), WfD kd ch st d id → i ∈ ndD ch d id → ∃ pre post e, ndD ch d id = pre ++ (ndD ch (e + 1) i ++ post) ∧ WfD kd ch st (e + 1) i
  | 0, _, _, _, h => by unfold ndD at h; simp at h
  | d + 1, id, i, hw, h => by
    by_cases h8 : id < 8
    · unfold ndD at h; rw [if_pos h8] at h; simp at h
    · rw [nd_in h8] at h
      rcases h with h | ⟨c, hc, h⟩
      · subst h; exact ⟨[], [], d, by simp, hw⟩
      · have hwc : WfD kd ch st d c := by unfold WfD at hw; rw [if_neg h8] at hw; exact hw.2.2.2.2 c hc
        obtain ⟨pre, post, e, h1, h2⟩ := nd_infix d c i hwc h
        obtain ⟨X, Y, e2⟩ := List.append_of_mem hc
        refine ⟨id :: (X.flatMap (ndD ch d) ++ pre), post ++ Y.flatMap (ndD ch d), e, ?_, h2⟩
        conv => lhs; unfold ndD
        rw [if_neg h8, e2, List.flatMap_append, List.flatMap_cons, h1]
        simp
theorem nd_parent : ∀ (d id j : Nat), j ∈ ndD ch d id → j = id ∨ ∃ i ∈ ndD ch d id, j ∈ ch i
  | 0, _, _, h => by unfold ndD at h; simp at h
  | d + 1, id, j, h => by
    by_cases h8 : id < 8
    · unfold ndD at h; rw [if_pos h8] at h; simp at h
    · have h0 := h
      rw [nd_in h8] at h
      rcases h with h | ⟨c, hc, h⟩
      · exact Or.inl h
      · right
        rcases nd_parent d c j h with q | ⟨i, hi, q⟩
        · subst q; exact ⟨id, (nd_in h8).mpr (Or.inl rfl), hc⟩
        · exact ⟨i, (nd_in h8).mpr (Or.inr ⟨c, hc, hi⟩), q⟩
end
section
variable {σ : Mem} {t : Nat} {kd : Nat → Bool} {ch : Nat → List Nat} {st : Nat → Nat} {root : Nat}
/- what is known of a tree that was drawn: c is how many nodes it has -/
theorem DR.facts (h : DR σ t kd ch st root) : ∃ c, c = (ndD ch 8 root).length ∧ c ≤ 7 ∧ σ t 5 = nI c ∧ (∀ i, i ∈ ndD ch 8 root ↔ 8 ≤ i ∧ i < 8 + c) ∧ (root < 8 → c = 0) ∧ (8 ≤ root → root = 8 ∧ 1 ≤ c) ∧ (∀ i, 8 ≤ i → i < 8 + c → WfD kd ch st 8 i ∧ ch i ≠ [] ∧ 2 ≤ (ch i).length ∧ (ch i).length ≤ 8 ∧ st i < 256 ∧ (∀ e ∈ ch i, WfD kd ch st 8 e ∧ Us ch e ∧ st e < 256 ∧ st e ≠ 0 ∧ (e < 8 ∨ (i < e ∧ e < 8 + c)))) := by
  obtain ⟨hT, hw, hcan, h5, hrg⟩ := h
  have hA := hT.1
  have hn7 : (ndD ch 8 root).length ≤ 7 := by have := (nd_lv 8 root hw).1; have := lv_le8 hw; omega
  have hmem : ∀ i, i ∈ ndD ch 8 root ↔ 8 ≤ i ∧ i < 8 + (ndD ch 8 root).length := fun i => by
    conv => lhs; rw [hrg, List.mem_range'_1]
  refine ⟨_, rfl, hn7, h5, hmem, fun q => ?_, fun q => ?_, fun i h1 h2 => ?_⟩
  · have : ndD ch 8 root = [] := by unfold ndD; rw [if_pos q]
    rw [this]; rfl
  · have hin := nd_self hw q
    have hl := List.length_pos_of_mem hin
    refine ⟨?_, hl⟩
    have e : ndD ch 8 root = root :: (ch root).flatMap (ndD ch 7) := ndD_node (by omega)
    obtain ⟨c, hc⟩ : ∃ c, (ndD ch 8 root).length = c + 1 := ⟨(ndD ch 8 root).length - 1, by omega⟩
    rw [hc, List.range'_succ, e] at hrg
    exact (List.cons.inj hrg).1
  · have hin := (hmem i).mpr ⟨h1, h2⟩
    obtain ⟨-, g2, g3⟩ := nd_sub 8 root hw i hin
    have hi24 := nd_lt hA 8 root hT.2.2.1 hin
    have hus := us_wf g2
    have h256 := ((hA i hi24).2.2.2.1 hus).1
    have hw8 : ∀ e, Wf kd ch st e → st e < 256 → WfD kd ch st 8 e := fun e he hl => WfD_mono (wfd_pc e he hl) (pc_le _ hl)
    have hwi := hw8 i g2 h256
    obtain ⟨k1, k2, k3, k4, k5, k6, d', k7, k8⟩ := node_ok hA hwi g3 hi24
    refine ⟨hwi, k1, k2, k3, h256, fun e he => ?_⟩
    obtain ⟨l1, l2, l3, l4, l5⟩ := k8 e he
    refine ⟨hw8 e ⟨_, l1⟩ l4, l3, l4, l5, ?_⟩
    by_cases q : e < 8
    · exact Or.inl q
    · right
      have hein := nd_child 8 root hw i hin e he (by omega)
      refine ⟨?_, ((hmem e).mp hein).2⟩
      obtain ⟨pre, post, f, e1, e2⟩ := nd_infix 8 root i hw hin
      have hpw : (ndD ch 8 root).Pairwise (fun a b => a < b) := by rw [hrg]; exact List.pairwise_lt_range'
      rw [e1, List.pairwise_append] at hpw
      have hp2 := hpw.2.1
      rw [List.pairwise_append] at hp2
      have hp3 := hp2.1
      have e3 : ndD ch (f + 1) i = i :: (ch i).flatMap (ndD ch f) := ndD_node (by omega)
      rw [e3, List.pairwise_cons] at hp3
      have qf : f ≠ 0 := fun q0 => by
        subst q0
        unfold WfD at e2
        rw [if_neg (by omega)] at e2
        exact e2.2.2.2.2 e he
      refine hp3.1 e (List.mem_flatMap.mpr ⟨e, he, ?_⟩)
      obtain ⟨f', rfl⟩ : ∃ f', f = f' + 1 := ⟨f - 1, by omega⟩
      rw [nd_in (by omega)]; exact Or.inl rfl
end
