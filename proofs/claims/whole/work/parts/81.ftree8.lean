theorem Mk01.congr {n : Nat} {f : Nat → Int32} {P Q : Nat → Prop} (h : Mk01 n f P) (e : ∀ X, X ≤ fullM n → (P X ↔ Q X)) : Mk01 n f Q := fun X hX => ⟨(h X hX).1, (h X hX).2.trans (e X hX)⟩
/-- findsTree: the text and the nodes of the canonical tree -/
theorem M_findsTree_eq {σ : Mem} {n : Nat} {G : Nat → Nat} {c : Nat} (h : MI σ n G c) {L : List Nat} (hL : L = (List.range 11).map (nget G (tkB n G c) 0)) {kd : Nat → Bool} {ch : Nat → List Nat} {st : Nat → Nat} {D root : Nat} (hwr : WfD kd ch st D root) (hroot : st root = fullM n) (hcan : ∀ N ∈ ndD ch D root, Can kd ch st N) (hin : 8 ≤ root → root ∈ ndD ch D root) (hFr : ∀ r, Fr kd ch root r ↔ Rw n L r) : ∃ τ, M_findsTree σ = some τ ∧ PubM σ τ ∧ τ 43 12 = nI (txD kd ch D root).length ∧ SgAt (τ 53) (txD kd ch D root) ∧ τ 43 7 = nI (ndD ch D root).length ∧ NdA τ kd ch st (ndD ch D root) := by
  obtain ⟨σ1, s1, s2, s3, s4, s5⟩ := M_findsStrong_eq h hL
  have hn : n ≤ 8 := h.2.2.1
  have hfull := full_lt hn
  have eS : ∀ X, X ≤ fullM n → (SureB n L X ↔ SureS kd ch st root X) := fun X hX => by
    unfold SureB SureS
    constructor
    · rintro ⟨a, b⟩
      exact ⟨a, by rw [hroot]; exact le_full_sub hX, fun r hr => b r ((hFr r).mp hr)⟩
    · rintro ⟨a, -, b⟩
      exact ⟨a, fun r hr => b r ((hFr r).mpr hr)⟩
  have htc1 : TC σ1 kd ch st D root n := by
    refine ⟨hn, hwr, hroot, s5.congr (fun X hX => ?_), s4.congr eS⟩
    unfold NdS
    rw [← strong_iff hwr X, eS X hX]
    constructor
    · rintro ⟨a, b⟩
      refine ⟨a, fun Z hZ => ?_⟩
      have hZ2 : Z ≤ fullM n := sub_le_full (by rw [← hroot]; exact hZ.2.1)
      exact b Z hZ2 ((eS Z hZ2).mpr hZ)
    · rintro ⟨a, b⟩
      exact ⟨a, fun Z hZ2 hZ => b Z ((eS Z hZ2).mp hZ)⟩
  generalize hσ3 : mput (mput σ1 43 7 0) 43 12 0 = σ3
  have k43 : ∀ i, i ≠ 7 → i ≠ 12 → σ3 43 i = σ1 43 i := fun i a b => by rw [← hσ3, mput_at, if_neg (fun h => b h.2), mput_at, if_neg (fun h => a h.2)]
  have kk : ∀ k, k ≠ 43 → σ3 k = σ1 k := fun k a => by rw [← hσ3, mput_ne k a, mput_ne k a]
  have k7 : σ3 43 7 = 0 := by rw [← hσ3, mput_at, if_neg (fun h => (by cases h.2)), mput_at, if_pos ⟨rfl, rfl⟩]
  have k12 : σ3 43 12 = 0 := by rw [← hσ3, mput_at, if_pos ⟨rfl, rfl⟩]
  have hall : M_all σ3 = nI (fullM n) := M_all_eq (by rw [k43 0 (by decide) (by decide), s2.1]; exact h.1) hn
  have d1 : wr σ3 55 0 (M_all σ3) = some (mput σ3 55 0 (nI (fullM n))) := by rw [hall]; exact wr_nI (i := 0) (by show _ < 64; omega) (by decide)
  have htc4 : TC (mput σ3 55 0 (nI (fullM n))) kd ch st D root n := htc1.same (by rw [mput_ne 54 (by decide), kk 54 (by decide)]) (by rw [mput_ne 48 (by decide), kk 48 (by decide)])
  have hI : FTI (mput σ3 55 0 (nI (fullM n))) (mput σ3 55 0 (nI (fullM n))) kd ch st D root [] [] [Sum.inl root] := by
    refine ⟨PubM.rf _, rfl, rfl, by rw [mput_43 (by decide)]; exact k12, fun i hi => absurd hi (by simp), by rw [mput_43 (by decide)]; exact k7, fun i hi => absurd hi (by simp), ?_, by simp [txT], by simp [ndT], ?_⟩
    · intro i hi
      simp at hi
      subst hi
      rw [mput_at, if_pos ⟨rfl, rfl⟩, ← hroot]; rfl
    · intro x hx
      rw [List.mem_singleton] at hx
      subst hx
      refine ⟨fun id e => ?_, fun s e => (by cases e)⟩
      cases e
      exact ⟨hwr, by rw [hroot]; exact hfull, hin⟩
  obtain ⟨τ, l1, l2⟩ := ft_loop htc4 hcan hI
  refine ⟨τ, ?_, ?_, l2.2.2.2.1, l2.2.2.2.2.1, l2.2.2.2.2.2.1, l2.2.2.2.2.2.2.1⟩
  · unfold M_findsTree
    refine ob s1 ?_
    refine lti rfl ?_
    refine lti hσ3 ?_
    refine ob d1 ?_
    exact ob l1 rfl
  · refine (s2.tr (PubM.of (fun i hi => ?_) (fun k hk => ?_))).tr l2.1
    · rw [mput_43 (by decide)]; exact k43 i (by omega) (by omega)
    · rw [mput_ne k (by omega)]; exact kk k (by omega)
