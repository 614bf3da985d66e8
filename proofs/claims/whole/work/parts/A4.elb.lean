theorem nd_disj {kd : Nat → Bool} {ch : Nat → List Nat} {st : Nat → Nat} {d p q i : Nat} (hp : WfD kd ch st d p) (hq : WfD kd ch st d q) (h0 : st p &&& st q = 0) (h1 : i ∈ ndD ch d p) (h2 : i ∈ ndD ch d q) : False := by
  obtain ⟨a1, a2, a3⟩ := nd_sub d p hp i h1
  obtain ⟨b1, -, -⟩ := nd_sub d q hq i h2
  obtain ⟨j, hj⟩ := Nat.exists_testBit_of_ne_zero (Wf_ne0 i a2)
  exact and0_iff.mp h0 j (a1 j hj) (b1 j hj)
section
variable {σ0 σ : Mem} {t : Nat} {kd0 : Nat → Bool} {ch0 : Nat → List Nat} {st0 : Nat → Nat} {S d : Nat}
def ElB (kd0 : Nat → Bool) (ch0 : Nat → List Nat) (st0 : Nat → Nat) (S d : Nat) (L : List Nat) (items : List (List Nat)) : Prop :=
  (∀ I ∈ items, I ≠ []) ∧ (∀ c ∈ items.flatten, c < 24 ∧ Us ch0 c ∧ WfD kd0 ch0 st0 d c ∧ st0 c < 256 ∧ stt st0 S c ≠ 1 ∧ (∃ p ∈ L, subM (st0 c) (st0 p) ∧ ∀ i ∈ ndD ch0 d c, i ∈ ndD ch0 d p)) ∧ Dj st0 items.flatten ∧ orL st0 items.flatten = orL st0 L ∧ ∀ p ∈ L, ∀ i ∈ ndD ch0 d p, stt st0 S i ≠ 1 → ∃ c ∈ items.flatten, i ∈ ndD ch0 d c
theorem ElB.perm {L : List Nat} {A B : List (List Nat)} (h : ElB kd0 ch0 st0 S d L A) (hp : B.Perm A) : ElB kd0 ch0 st0 S d L B := by
  obtain ⟨h1, h2, h3, h4, h5⟩ := h
  have hf : B.flatten.Perm A.flatten := hp.flatten
  refine ⟨fun I hI => h1 I (hp.mem_iff.mp hI), fun c hc => h2 c (hf.mem_iff.mp hc), Dj_perm hf h3, ?_, ?_⟩
  · rw [← h4]; exact orL_perm (fun c => hf.mem_iff)
  · intro p hp i hi hs
    obtain ⟨c, hc, hc2⟩ := h5 p hp i hi hs
    exact ⟨c, hf.mem_iff.mpr hc, hc2⟩
theorem ElB.app {L M : List Nat} {A B : List (List Nat)} (h : ElB kd0 ch0 st0 S d L A) (g : ElB kd0 ch0 st0 S d M B) (hd : ∀ a ∈ L, ∀ b ∈ M, st0 a &&& st0 b = 0) : ElB kd0 ch0 st0 S d (L ++ M) (A ++ B) := by
  obtain ⟨h1, h2, h3, h4, h5⟩ := h
  obtain ⟨g1, g2, g3, g4, g5⟩ := g
  refine ⟨?_, ?_, ?_, ?_, ?_⟩
  · intro I hI
    rw [List.mem_append] at hI
    exact hI.elim (h1 I) (g1 I)
  · intro c hc
    rw [List.flatten_append, List.mem_append] at hc
    rcases hc with hc | hc
    · obtain ⟨a, b, c', e, f, p, hp, q⟩ := h2 c hc
      exact ⟨a, b, c', e, f, p, by simp [hp], q⟩
    · obtain ⟨a, b, c', e, f, p, hp, q⟩ := g2 c hc
      exact ⟨a, b, c', e, f, p, by simp [hp], q⟩
  · rw [List.flatten_append]
    unfold Dj at h3 g3 ⊢
    rw [List.pairwise_append]
    refine ⟨h3, g3, fun a ha b hb => ?_⟩
    obtain ⟨-, -, -, -, -, p, hp, s1, -⟩ := h2 a ha
    obtain ⟨-, -, -, -, -, q, hq, s2, -⟩ := g2 b hb
    rw [and0_iff]
    intro i h1 h2
    exact and0_iff.mp (hd p hp q hq) i (s1 i h1) (s2 i h2)
  · rw [List.flatten_append, orL_app, orL_app, h4, g4]
  · intro p hp i hi hs
    rw [List.mem_append] at hp
    rcases hp with hp | hp
    · obtain ⟨c, hc, e⟩ := h5 p hp i hi hs
      exact ⟨c, by rw [List.flatten_append, List.mem_append]; exact Or.inl hc, e⟩
    · obtain ⟨c, hc, e⟩ := g5 p hp i hi hs
      exact ⟨c, by rw [List.flatten_append, List.mem_append]; exact Or.inr hc, e⟩
theorem ElB.nil : ElB kd0 ch0 st0 S d [] [] := ⟨by simp, by simp, by simp [Dj], rfl, by simp⟩
def Chd (kd0 : Nat → Bool) (ch0 : Nat → List Nat) (st0 : Nat → Nat) (d c : Nat) : Prop := WfD kd0 ch0 st0 d c ∧ c < 24 ∧ Us ch0 c ∧ st0 c < 256 ∧ st0 c ≠ 0
theorem ElB.flat {L : List Nat} {items : List (List Nat)} (hf : items.flatten = L) (hi : ∀ I ∈ items, I ≠ []) (hd : Dj st0 L) (hc : ∀ c ∈ L, Chd kd0 ch0 st0 d c ∧ stt st0 S c ≠ 1) : ElB kd0 ch0 st0 S d L items := by
  refine ⟨hi, ?_, by rw [hf]; exact hd, by rw [hf], ?_⟩
  · rw [hf]
    intro c h
    obtain ⟨⟨a1, a2, a3, a4, a5⟩, b⟩ := hc c h
    exact ⟨a2, a3, a1, a4, b, c, h, fun _ h => h, fun _ h => h⟩
  · rw [hf]; intro p hp i hi _; exact ⟨p, hp, hi⟩
theorem ElB.ofA {c : Nat} {items : List (List Nat)} (h : ElA kd0 ch0 st0 S d c items) : ElB kd0 ch0 st0 S d [c] items := by
  obtain ⟨h1, h2, h3, h4, h5⟩ := h
  refine ⟨fun I hI => (h1 I hI).1, ?_, h3, by rw [h4]; show _ = st0 c ||| 0; rw [Nat.or_zero], ?_⟩
  · intro e he
    obtain ⟨a, b, c', f, g⟩ := h2 e he
    refine ⟨a, b, c', f, ?_, c, by simp, ?_, g⟩
    · obtain ⟨I, hI, heI⟩ := List.mem_flatten.mp he
      rcases (h1 I hI).2 with q | q
      · rw [q e heI]; omega
      · rw [q e heI]; omega
    · intro i hi
      rw [← h4]
      exact (orL_bit st0 _ i).mpr ⟨e, he, hi⟩
  · intro p hp i hi hs
    rw [List.mem_singleton] at hp
    subst hp
    exact h5 i hi hs
theorem turnA_elts {spl : Nat → Option (List (List Nat))} (hspl : ∀ c x, Chd kd0 ch0 st0 d c → stt st0 S c = 1 → spl c = some x → ElA kd0 ch0 st0 S d c x) : ∀ (L : List Nat) (sg : Nat) (items : List (List Nat)), (∀ c ∈ L, Chd kd0 ch0 st0 d c) → Dj st0 L → turnA spl st0 S L sg = some items → ElB kd0 ch0 st0 S d L items ∧ L.length ≤ items.length
  | [], sg, items, _, _, h => by
    have : items = [] := by unfold turnA at h; simp at h; exact h
    subst this
    exact ⟨ElB.nil, Nat.le_refl _⟩
  | c :: L, sg, items, hc, hd, h => by
    have hd2 := hd
    unfold Dj at hd2
    rw [List.pairwise_cons] at hd2
    have hcc := hc c (by simp)
    have hL : ∀ e ∈ L, Chd kd0 ch0 st0 d e := fun e he => hc e (by simp [he])
    have one : stt st0 S c ≠ 1 → ElB kd0 ch0 st0 S d [c] [[c]] := fun hs => ElB.flat rfl (by simp) (by simp [Dj]) (fun e he => by rw [List.mem_singleton] at he; rw [he]; exact ⟨hcc, hs⟩)
    have dis : ∀ a ∈ [c], ∀ b ∈ L, st0 a &&& st0 b = 0 := fun a ha b hb => by rw [List.mem_singleton] at ha; rw [ha]; exact hd2.1 b hb
    have fin : ∀ (I m : List (List Nat)) sg, ElB kd0 ch0 st0 S d [c] I → 1 ≤ I.length → turnA spl st0 S L sg = some m → ElB kd0 ch0 st0 S d (c :: L) (I ++ m) ∧ (c :: L).length ≤ (I ++ m).length := fun I m sg hI hl hm => by
      obtain ⟨a, b⟩ := turnA_elts hspl L sg m hL hd2.2 hm
      exact ⟨hI.app a dis, by rw [List.length_append, List.length_cons]; omega⟩
    unfold turnA at h
    by_cases c0 : stt st0 S c = 0
    · rw [if_pos c0] at h
      obtain ⟨m, hm, e⟩ := Option.map_eq_some_iff.mp h
      subst e
      exact fin [[c]] m _ (one (by omega)) (by simp) hm
    · rw [if_neg c0] at h
      by_cases c2 : sg = 2
      · rw [if_pos c2] at h; exact absurd h (by simp)
      · rw [if_neg c2] at h
        by_cases c3 : stt st0 S c = 2
        · rw [if_pos c3] at h
          obtain ⟨m, hm, e⟩ := Option.map_eq_some_iff.mp h
          subst e
          exact fin [[c]] m _ (one (by omega)) (by simp) hm
        · rw [if_neg c3] at h
          have c1 : stt st0 S c = 1 := by rcases stt_3 st0 S c with e | e | e <;> omega
          obtain ⟨x, hx, h⟩ := Option.bind_eq_some_iff.mp h
          have hA := hspl c x hcc c1 hx
          have h2 := hA.two c1 hcc.2.2.2.2
          by_cases c4 : sg = 0
          · rw [if_pos c4] at h
            obtain ⟨m, hm, e⟩ := Option.map_eq_some_iff.mp h
            subst e
            exact fin x m _ (ElB.ofA hA) (by omega) hm
          · rw [if_neg c4] at h
            obtain ⟨m, hm, e⟩ := Option.map_eq_some_iff.mp h
            subst e
            exact fin x.reverse m _ ((ElB.ofA hA).perm (List.reverse_perm x)) (by rw [List.length_reverse]; omega) hm
theorem freeA_elts {spl : Nat → Option (List (List Nat))} (hspl : ∀ c x, Chd kd0 ch0 st0 d c → stt st0 S c = 1 → spl c = some x → ElA kd0 ch0 st0 S d c x) {C : List Nat} {items : List (List Nat)} (hc : ∀ c ∈ C, Chd kd0 ch0 st0 d c) (hd : Dj st0 C) (h : freeA spl st0 S C = some items) : ElB kd0 ch0 st0 S d (fE st0 S C 1 ++ fE st0 S C 2) items ∧ (fE st0 S C 1 = [] → items = bun (fE st0 S C 2)) ∧ (fE st0 S C 1 ≠ [] → 2 ≤ (fE st0 S C 1).length + (fE st0 S C 2).length → 3 ≤ items.length) := by
  have hD1 : Dj st0 (fE st0 S C 0 ++ fE st0 S C 1 ++ fE st0 S C 2) := Dj_perm (fE_part st0 S C) hd
  have hD2 := hD1
  unfold Dj at hD2
  rw [List.pairwise_append, List.pairwise_append] at hD2
  obtain ⟨⟨-, hD3, -⟩, hD4, hD5⟩ := hD2
  have hF : ElB kd0 ch0 st0 S d (fE st0 S C 2) (bun (fE st0 S C 2)) := ElB.flat bun_flat (fun I hI => (bun_ok (Or.inr rfl) I hI).1) hD4 (fun c h => ⟨hc c (fE_mem.mp h).1, by rw [(fE_mem.mp h).2]; omega⟩)
  have hbl : fE st0 S C 2 ≠ [] → (bun (fE st0 S C 2)).length = 1 := fun hne => by unfold bun; rw [if_neg hne]; rfl
  unfold freeA at h
  by_cases c1 : 2 < (fE st0 S C 1).length
  · rw [if_pos c1] at h; exact absurd h (by simp)
  rw [if_neg c1] at h
  obtain ⟨x, hx, h⟩ := Option.bind_eq_some_iff.mp h
  obtain ⟨y, hy, e⟩ := Option.map_eq_some_iff.mp h
  subst e
  have hc1 : ∀ c ∈ fE st0 S C 1, Chd kd0 ch0 st0 d c ∧ stt st0 S c = 1 := fun c h => ⟨hc c (fE_mem.mp h).1, (fE_mem.mp h).2⟩
  have dis : ∀ a ∈ fE st0 S C 1, ∀ b ∈ fE st0 S C 2, st0 a &&& st0 b = 0 := fun a ha b hb => hD5 a (by simp [ha]) b hb
  rcases hP : fE st0 S C 1 with _ | ⟨p, _ | ⟨q, T⟩⟩
  · rw [hP] at hx hy
    have hx0 : x = [] := by unfold midA at hx; simp at hx; exact hx
    have hy0 : y = [] := by unfold midA at hy; simp at hy; exact hy
    subst hx0 hy0
    simp only [List.nil_append, List.reverse_nil, List.append_nil]
    exact ⟨hF, by simp, by simp⟩
  · rw [hP] at hx hy hc1 dis
    have hy0 : y = [] := by simp [midA] at hy; exact hy
    subst hy0
    obtain ⟨k1, k2⟩ := hc1 p (by simp)
    have hA := hspl p x k1 k2 hx
    have h2 := hA.two k2 k1.2.2.2.2
    rw [List.reverse_nil, List.append_nil]
    refine ⟨(ElB.ofA hA).app hF dis, fun h => by simp at h, fun _ hl => ?_⟩
    rw [List.length_append]
    have : fE st0 S C 2 ≠ [] := fun e => by rw [e] at hl; simp at hl
    have := hbl this
    omega
  · have hT : T = [] := by rw [hP] at c1; cases T with | nil => rfl | cons a T => simp at c1
    subst hT
    rw [hP] at hx hy hc1 dis hD3
    obtain ⟨k1, k2⟩ := hc1 p (by simp)
    obtain ⟨l1, l2⟩ := hc1 q (by simp)
    have hA := hspl p x k1 k2 hx
    have hB := hspl q y l1 l2 hy
    have h2 := hA.two k2 k1.2.2.2.2
    have h3 := hB.two l2 l1.2.2.2.2
    have hpq : st0 p &&& st0 q = 0 := by
      rw [List.pairwise_cons] at hD3; exact hD3.1 q (by simp)
    have g := ((ElB.ofA hA).app (ElB.ofA hB) (fun a ha b hb => by rw [List.mem_singleton] at ha hb; rw [ha, hb]; exact hpq)).app hF dis
    refine ⟨?_, fun h => by simp at h, fun _ _ => by rw [List.length_append, List.length_append, List.length_reverse]; omega⟩
    refine ElB.perm (L := [p, q] ++ fE st0 S C 2) g ?_
    have e1 : (x ++ bun (fE st0 S C 2) ++ y.reverse).Perm (x ++ (bun (fE st0 S C 2) ++ y)) := by
      rw [List.append_assoc]; exact ((List.reverse_perm y).append_left _).append_left _
    have e2 : (x ++ (bun (fE st0 S C 2) ++ y)).Perm (x ++ (y ++ bun (fE st0 S C 2))) := List.perm_append_comm.append_left _
    have e3 := e1.trans e2
    rw [← List.append_assoc x y] at e3
    exact e3
end
