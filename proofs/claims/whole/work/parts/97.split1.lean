theorem nd_notin {kd : Nat → Bool} {ch : Nat → List Nat} {st : Nat → Nat} {d node c : Nat} (hw : WfD kd ch st (d + 1) node) (h8 : 8 ≤ node) (hc : c ∈ ch node) : node ∉ ndD ch d c := by
  intro hin
  have hwf : Wf kd ch st node := ⟨_, hw⟩
  obtain ⟨g1, -, -, gD, gW⟩ := (Wf_node h8).mp hwf
  have hwc : WfD kd ch st d c := by
    unfold WfD at hw; rw [if_neg (by omega)] at hw; exact hw.2.2.2.2 c hc
  have hs := (nd_sub d c hwc node hin).1
  obtain ⟨e, he, hne⟩ := two_len g1 (Dj_nodup gD (fun x hx => Wf_ne0 x (gW x hx))) c
  have h0 : st e &&& st c = 0 := Classical.byContradiction (fun q => hne (Dj_uniq gD he hc q))
  obtain ⟨i, hi⟩ := Nat.exists_testBit_of_ne_zero (Wf_ne0 e (gW e he))
  have h1 : (st node).testBit i = true := by
    rw [((Wf_node h8).mp hwf).2.2.1]; exact (orL_bit st _ i).mpr ⟨e, he, hi⟩
  have h2 := hs i h1
  have : (st e &&& st c).testBit i = true := by rw [Nat.testBit_and, hi, h2]; rfl
  rw [h0] at this; simp at this
theorem stt_up {st : Nat → Nat} {S i c : Nat} (hs : subM (st i) (st c)) (h0 : st c ≠ 0) (h : stt st S i = 1) : stt st S c = 1 := by
  rcases stt_3 st S c with e | e | e
  · exfalso
    have : stt st S i = 0 := stt0_iff.mpr (fun j hj => stt0_iff.mp e j (hs j hj))
    omega
  · exact e
  · exfalso
    have h2 := (stt2_iff h0).mp e
    have : st i &&& S = st i := by
      apply Nat.eq_of_testBit_eq
      intro j
      rw [Nat.testBit_and]
      cases q : (st i).testBit j
      · rfl
      · rw [h2 j (hs j q)]; rfl
    unfold stt at h
    rw [if_pos this] at h
    by_cases q : st i &&& S = 0
    · rw [if_pos q] at h; omega
    · rw [if_neg q] at h; omega
section
variable {σ0 : Mem} {t : Nat} {kd0 : Nat → Bool} {ch0 : Nat → List Nat} {st0 : Nat → Nat}
theorem node_ok (hA : AT σ0 t kd0 ch0 st0) {d node : Nat} (hw : WfD kd0 ch0 st0 d node) (h8 : 8 ≤ node) (hn : node < 24) : ch0 node ≠ [] ∧ 2 ≤ (ch0 node).length ∧ (ch0 node).length ≤ 8 ∧ st0 node < 256 ∧ Dj st0 (ch0 node) ∧ st0 node = orL st0 (ch0 node) ∧ ∃ d', d = d' + 1 ∧ ∀ c ∈ ch0 node, WfD kd0 ch0 st0 d' c ∧ c < 24 ∧ Us ch0 c ∧ st0 c < 256 ∧ st0 c ≠ 0 := by
  cases d with
  | zero => exact hw.elim
  | succ d =>
    have hw2 := hw
    unfold WfD at hw2
    rw [if_neg (by omega)] at hw2
    have hne : ch0 node ≠ [] := fun e => by rw [e] at hw2; simp at hw2
    refine ⟨hne, hw2.1, (hA node hn).1, ((hA node hn).2.2.2.1 (Or.inr hne)).1, hw2.2.2.2.1, hw2.2.2.1, d, rfl, ?_⟩
    intro c hc
    have h1 := hw2.2.2.2.2 c hc
    have h24 := hA.lt24 hn hc
    have hu : Us ch0 c := by
      by_cases q : c < 8
      · exact Or.inl q
      · right
        have := ((Wf_node (by omega)).mp ⟨d, h1⟩).1
        intro e; rw [e] at this; simp at this
    exact ⟨h1, h24, hu, ((hA c h24).2.2.2.1 hu).1, Wf_ne0 c ⟨d, h1⟩⟩
theorem part1_ok (hA : AT σ0 t kd0 ch0 st0) {d node S : Nat} (hw : WfD kd0 ch0 st0 d node) (h8 : 8 ≤ node) (hn : node < 24) {c : Nat} (hc : c ∈ ch0 node) (h1 : stt st0 S c = 1) : 8 ≤ c := by
  obtain ⟨-, -, -, -, -, -, d', e, h⟩ := node_ok hA hw h8 hn
  by_cases q : c < 8
  · exact absurd h1 (leaf_stt ((Wf_leaf q).mp ⟨d', (h c hc).1⟩))
  · omega
theorem pc_two {d node S : Nat} (hA : AT σ0 t kd0 ch0 st0) (hw : WfD kd0 ch0 st0 d node) (h8 : 8 ≤ node) (hn : node < 24) : (ch0 node).length ≤ pc8 (st0 node) ∧ pc8 (st0 node) = pcs st0 (fE st0 S (ch0 node) 0) + pcs st0 (fE st0 S (ch0 node) 1) + pcs st0 (fE st0 S (ch0 node) 2) ∧ (ch0 node).length = (fE st0 S (ch0 node) 0).length + (fE st0 S (ch0 node) 1).length + (fE st0 S (ch0 node) 2).length ∧ ∀ q, (fE st0 S (ch0 node) q).length ≤ pcs st0 (fE st0 S (ch0 node) q) := by
  obtain ⟨-, -, -, -, hD, e, d', -, h⟩ := node_ok hA hw h8 hn
  refine ⟨?_, pc_parts h8 ⟨d, hw⟩, ?_, ?_⟩
  · rw [e, pcs_or hD]; exact pcs_len (fun c hc => (h c hc).2.2.2)
  · have := (fE_part st0 S (ch0 node)).length_eq
    rw [List.length_append, List.length_append] at this; omega
  · intro q; exact pcs_len (fun c hc => (h c (fE_mem.mp hc).1).2.2.2)
theorem XI.mark {kd : Nat → Bool} {ch : Nat → List Nat} {st : Nat → Nat} {sp nw : List Nat} (h : XI kd0 ch0 st0 kd ch st sp nw) {node : Nat} {C : List Nat} (h0 : ch0 node ≠ []) (hC : C ≠ []) : XI kd0 ch0 st0 kd (uf ch node C) st (sp ++ [node]) nw := by
  have hnw : ∀ i ∈ nw, i ≠ node := fun i hi e => h0 (by rw [← e]; exact (h.2.2.1 i hi).2.2.1)
  refine ⟨?_, ?_, ?_, h.2.2.2.1, ?_⟩
  · intro i hi
    obtain ⟨a, b, c⟩ := h.1 i hi
    refine ⟨a, b, fun hs => ?_⟩
    rw [List.mem_append, List.mem_singleton, not_or] at hs
    rw [uf_n hs.2]; exact c hs.1
  · intro i hi
    by_cases q : i = node
    · subst q; rw [uf_s]; exact ⟨h0, hC⟩
    · rw [uf_n q]
      rw [List.mem_append, List.mem_singleton] at hi
      exact h.2.1 i (hi.resolve_right q)
  · intro i hi
    rw [uf_n (hnw i hi)]; exact h.2.2.1 i hi
  · intro i hi
    by_cases q : i = node
    · left; rw [q]; exact h0
    · rw [uf_n q] at hi; exact h.2.2.2.2 i hi
end
