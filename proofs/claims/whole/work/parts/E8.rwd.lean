def rwD (kd : Nat → Bool) (ch : Nat → List Nat) (dg : Nat → Nat) : Nat → Nat → List Nat
  | 0, _ => []
  | d + 1, id => if id < 8 then [id] else (chO ch id (ordL (kd id) (ch id).length (dg id))).flatMap (rwD kd ch dg d)
theorem chO_range {ch : Nat → List Nat} {nd : Nat} : chO ch nd (List.range (ch nd).length) = ch nd := by
  unfold chO
  apply List.ext_getElem?
  intro i
  rw [List.getElem?_map]
  by_cases h : i < (ch nd).length
  · rw [List.getElem?_range h, List.getElem?_eq_getElem h]
    show some ((ch nd).getD i 0) = some _
    rw [List.getD_eq_getElem?_getD, List.getElem?_eq_getElem h]; rfl
  · rw [List.getElem?_eq_none (by rw [List.length_range]; omega), List.getElem?_eq_none (by omega)]; rfl
theorem ordL_perm {b : Bool} {n way : Nat} (hn : n ≤ 8) (hw : way < wys b n) : (ordL b n way).Perm (List.range n) := by
  obtain ⟨a1, a2, a3⟩ := ordL_row hn hw
  refine (List.perm_ext_iff_of_nodup a1 List.nodup_range).mpr (fun x => ⟨fun h => List.mem_range.mpr (a3 x h), fun h => ?_⟩)
  refine Classical.byContradiction (fun hno => ?_)
  have := len_sub (x :: ordL b n way) (List.range n) (by rw [List.nodup_cons]; exact ⟨hno, a1⟩) (fun y hy => by
    rw [List.mem_cons] at hy
    rcases hy with e | e
    · rw [e]; exact h
    · exact List.mem_range.mpr (a3 y e))
  rw [List.length_cons, a2, List.length_range] at this
  omega
theorem chO_ord {ch : Nat → List Nat} {nd : Nat} {b : Bool} {way : Nat} (hn : (ch nd).length ≤ 8) (hw : way < wys b (ch nd).length) : OrdR b (ch nd) (chO ch nd (ordL b (ch nd).length way)) := by
  unfold OrdR
  cases b
  · rw [if_neg (by decide)]
    have h1 : (chO ch nd (ordL false (ch nd).length way)).Perm (chO ch nd (List.range (ch nd).length)) := (ordL_perm hn hw).map _
    rw [chO_range] at h1
    exact h1
  · rw [if_pos rfl]
    unfold ordL
    rw [if_pos rfl]
    by_cases q : way = 0
    · rw [if_pos q, chO_range]; exact Or.inl rfl
    · right
      rw [if_neg q]
      show List.map _ (List.reverse _) = _
      rw [List.map_reverse]
      congr 1
      exact chO_range
section
variable {kd : Nat → Bool} {ch : Nat → List Nat} {st : Nat → Nat} {dg : Nat → Nat}
theorem seq_flat {P : Nat → List Nat → Prop} {f : Nat → List Nat} : ∀ {L : List Nat}, (∀ c ∈ L, P c (f c)) → SeqR P L (L.flatMap f)
  | [], _ => rfl
  | c :: L, h => ⟨f c, L.flatMap f, rfl, h c (by simp), seq_flat (fun e he => h e (by simp [he]))⟩
theorem rwD_Fr : ∀ (d id : Nat), WfD kd ch st d id → (∀ i ∈ ndD ch d id, (ch i).length ≤ 8 ∧ dg i < wys (kd i) (ch i).length) → FrD kd ch d id (rwD kd ch dg d id)
  | 0, _, h, _ => h.elim
  | d + 1, id, h, hd => by
    unfold FrD rwD
    by_cases h8 : id < 8
    · rw [if_pos h8, if_pos h8]
    · rw [if_neg h8, if_neg h8]
      have hw := h
      unfold WfD at hw
      rw [if_neg h8] at hw
      obtain ⟨l1, l2⟩ := hd id ((nd_in h8).mpr (Or.inl rfl))
      have hO := chO_ord (ch := ch) (nd := id) l1 l2
      refine ⟨_, hO, seq_flat (fun c hc => ?_)⟩
      have hc2 := (OrdR_mem hO).mp hc
      exact rwD_Fr d c (hw.2.2.2.2 c hc2) (fun i hi => hd i ((nd_in h8).mpr (Or.inr ⟨c, hc2, hi⟩)))
theorem rwD_fuel : ∀ (d id : Nat), WfD kd ch st d id → rwD kd ch dg (d + 1) id = rwD kd ch dg d id ∨ ¬ ∀ i ∈ ndD ch d id, (ch i).length ≤ 8 ∧ dg i < wys (kd i) (ch i).length
  | 0, _, h => h.elim
  | d + 1, id, h => by
    by_cases hd : ∀ i ∈ ndD ch (d + 1) id, (ch i).length ≤ 8 ∧ dg i < wys (kd i) (ch i).length
    · left
      have hw := h
      unfold WfD at hw
      by_cases h8 : id < 8
      · unfold rwD; rw [if_pos h8, if_pos h8]
      · rw [if_neg h8] at hw
        obtain ⟨l1, l2⟩ := hd id ((nd_in h8).mpr (Or.inl rfl))
        have hO := chO_ord (ch := ch) (nd := id) l1 l2
        show (if id < 8 then [id] else (chO ch id (ordL (kd id) (ch id).length (dg id))).flatMap (rwD kd ch dg (d + 1))) = (if id < 8 then [id] else (chO ch id (ordL (kd id) (ch id).length (dg id))).flatMap (rwD kd ch dg d))
        rw [if_neg h8, if_neg h8]
        refine flatMap_congr' (fun c hc => ?_)
        have hc2 := (OrdR_mem hO).mp hc
        rcases rwD_fuel d c (hw.2.2.2.2 c hc2) with e | e
        · exact e
        · exact absurd (fun i hi => hd i ((nd_in h8).mpr (Or.inr ⟨c, hc2, hi⟩))) e
    · exact Or.inr hd
theorem list_len_eq {A B : List Nat} (hA : A.Nodup) (hB : B.Nodup) (h : ∀ x, x ∈ A ↔ x ∈ B) : A.length = B.length := len_same hA hB h
theorem rwD_len {d id : Nat} (hw : WfD kd ch st d id) (hd : ∀ i ∈ ndD ch d id, (ch i).length ≤ 8 ∧ dg i < wys (kd i) (ch i).length) (h256 : st id < 256) : (rwD kd ch dg d id).length = pc8 (st id) ∧ (rwD kd ch dg d id).Nodup ∧ ∀ x, x ∈ rwD kd ch dg d id ↔ (st id).testBit x = true := by
  obtain ⟨a1, a2⟩ := Fr_set id ⟨d, hw⟩ _ ⟨d, rwD_Fr d id hw hd⟩
  refine ⟨?_, a1, a2⟩
  unfold pc8
  refine list_len_eq a1 (List.Pairwise.filter _ List.nodup_range) (fun x => ?_)
  rw [a2, List.mem_filter, List.mem_range]
  exact ⟨fun h => ⟨bit_lt8 h256 h, h⟩, fun h => h.2⟩
/- where the parts of a node stand in the row -/
theorem rwD_node {d id : Nat} (h8 : 8 ≤ id) : rwD kd ch dg (d + 1) id = (chO ch id (ordL (kd id) (ch id).length (dg id))).flatMap (rwD kd ch dg d) := by
  conv => lhs; unfold rwD
  rw [if_neg (by omega)]
theorem loc_part {R : List Nat} {id s k : Nat} {f : Nat → List Nat} {C : List Nat} (hf : f id = C.flatMap f) (hL : Loc R f id s) (hk : k < C.length) (hlen : ∀ c ∈ C, (f c).length = pc8 (st c)) : Loc R f (C.getD k 0) (s + pcs st (C.take k)) := by
  obtain ⟨pre, post, e, hs⟩ := hL
  rw [hf, flat_split hk] at e
  refine ⟨pre ++ (C.take k).flatMap f, (C.drop (k + 1)).flatMap f ++ post, ?_, ?_⟩
  · rw [e]; simp
  · rw [List.length_append, hs, len_flat]
    congr 1
    unfold pcs
    congr 1
    exact List.map_congr_left (fun c hc => hlen c (List.mem_of_mem_take hc))
end
