def Adj (C : List Nat) (a b : Nat) : Prop := ∃ A B, C = A ++ (a :: b :: B) ∨ C = A ++ (b :: a :: B)
theorem third {C : List Nat} (hn : C.Nodup) (hl : 3 ≤ C.length) (a b : Nat) : ∃ e ∈ C, e ≠ a ∧ e ≠ b := by
  by_cases h : ∃ e ∈ C, e ≠ a ∧ e ≠ b
  · exact h
  · exfalso
    have hs : ∀ x ∈ C, x ∈ [a, b] := by
      intro x hx
      by_cases h1 : x = a
      · simp [h1]
      · by_cases h2 : x = b
        · simp [h2]
        · exact absurd ⟨x, hx, h1, h2⟩ h
    have := len_sub C [a, b] hn hs
    simp at this; omega
theorem two_list {B : List Nat} {a b : Nat} (hn : B.Nodup) (hab : a ≠ b) (h : ∀ x, x ∈ B ↔ x = a ∨ x = b) : B = [a, b] ∨ B = [b, a] := by
  have hp : B.Perm [a, b] := by
    rw [List.perm_ext_iff_of_nodup hn (by simp [hab])]
    intro x; rw [h]; simp
  have hl := hp.length_eq
  match B, hl with
  | [x, y], _ =>
    rcases perm_two (Q := [x]) (Q2 := [y]) (p := a) (q := b) (by simpa using hp) (by simp) (by simp) with ⟨h1, h2⟩ | ⟨h1, h2⟩
    · simp at h1 h2; subst h1; subst h2; exact Or.inl rfl
    · simp at h1 h2; subst h1; subst h2; exact Or.inr rfl
theorem pair_sure {kd : Nat → Bool} {ch : Nat → List Nat} {st : Nat → Nat} {d root : Nat} (hwd : WfD kd ch st d root) {N : Nat} (hN : N ∈ ndD ch d root) {a b : Nat} (ha : a ∈ ch N) (hb : b ∈ ch N) (hab : a ≠ b) (h3 : 3 ≤ (ch N).length) : SureS kd ch st root (st a ||| st b) ↔ (kd N = true ∧ Adj (ch N) a b) := by
  obtain ⟨n1, n2, n3⟩ := nd_sub d root hwd N hN
  obtain ⟨w1, -, w3, w4, w5⟩ := (Wf_node n3).mp n2
  have hnd : (ch N).Nodup := Dj_nodup w4 (fun c hc => Wf_ne0 c (w5 c hc))
  have subA : subM (st a) (st a ||| st b) := fun i hi => by rw [Nat.testBit_or, hi]; rfl
  have subB : subM (st b) (st a ||| st b) := fun i hi => by rw [Nat.testBit_or, hi]; simp
  have hdab : st a &&& st b = 0 := by
    by_cases h : st a &&& st b = 0
    · exact h
    · exact absurd (Dj_uniq w4 ha hb h) hab
  have h2 : two (st a ||| st b) := two_of_disj (Wf_ne0 a (w5 a ha)) (Wf_ne0 b (w5 b hb)) hdab subA subB
  have hsubN : subM (st a ||| st b) (st N) := fun i hi => by
    rw [Nat.testBit_or, Bool.or_eq_true] at hi
    rw [w3, orL_bit]
    rcases hi with hi | hi
    · exact ⟨a, ha, hi⟩
    · exact ⟨b, hb, hi⟩
  have hsub : subM (st a ||| st b) (st root) := fun i hi => n1 i (hsubN i hi)
  -- not within one part
  have notin : ∀ c ∈ ch N, ¬ subM (st a ||| st b) (st c) := by
    intro c hc hs
    obtain ⟨i, hi⟩ := Nat.exists_testBit_of_ne_zero (Wf_ne0 a (w5 a ha))
    obtain ⟨j, hj⟩ := Nat.exists_testBit_of_ne_zero (Wf_ne0 b (w5 b hb))
    have e1 := Dj_uniq w4 ha hc (and_ne0.mpr ⟨i, hi, hs i (subA i hi)⟩)
    have e2 := Dj_uniq w4 hb hc (and_ne0.mpr ⟨j, hj, hs j (subB j hj)⟩)
    exact hab (e1.trans e2.symm)
  constructor
  · rintro ⟨-, -, hS⟩
    obtain ⟨M, hM, hR⟩ := (sure_iff d root hwd _ h2 hsub).mp hS
    obtain ⟨m1, m2, m3⟩ := nd_sub d root hwd M hM
    have hXM := run_sub m3 m2 hR
    have hMN : M = N := by
      rcases lam d root hwd M hM N hN (st N) (Or.inl rfl) with h | h | h
      · rcases nd_within d root hwd N hN M hM h with e | ⟨c, hc, -, hs⟩
        · exact e
        · exact absurd (fun i hi => hs i (hXM i hi)) (notin c hc)
      · rcases nd_within d root hwd M hM N hN h with e | ⟨c, hc, -, hs⟩
        · exact e.symm
        · exfalso
          obtain ⟨v1, -, v3, v4, v5⟩ := (Wf_node m3).mp m2
          have hndM : (ch M).Nodup := Dj_nodup v4 (fun c hc => Wf_ne0 c (v5 c hc))
          have : ∃ f ∈ ch M, f ≠ c ∧ subM (st f) (st a ||| st b) := by
            rcases hR with e | ⟨-, A, B, C, e, hB, hX⟩
            · obtain ⟨f, hf, hne⟩ := two_len v1 hndM c
              exact ⟨f, hf, hne, fun i hi => by rw [e, v3, orL_bit]; exact ⟨f, hf, hi⟩⟩
            · have hBn : B.Nodup := by
                rw [e] at hndM
                exact (List.nodup_append.mp (List.nodup_append.mp hndM).2.1).1
              obtain ⟨f, hf, hne⟩ := two_len hB hBn c
              exact ⟨f, by rw [e]; simp [hf], hne, fun i hi => by rw [hX, orL_bit]; exact ⟨f, hf, hi⟩⟩
          obtain ⟨f, hf, hne, hfs⟩ := this
          obtain ⟨i, hi⟩ := Nat.exists_testBit_of_ne_zero (Wf_ne0 f (v5 f hf))
          exact hne (Dj_uniq v4 hf hc (and_ne0.mpr ⟨i, hi, hs i (hsubN i (hfs i hi))⟩))
      · exfalso
        obtain ⟨i, -, -, hi, -⟩ := h2
        exact and_ne0.mpr ⟨i, hXM i hi, hsubN i hi⟩ h
    subst hMN
    have inab : ∀ c ∈ ch M, subM (st c) (st a ||| st b) → c = a ∨ c = b := by
      intro c hc hs
      obtain ⟨i, hi⟩ := Nat.exists_testBit_of_ne_zero (Wf_ne0 c (w5 c hc))
      have := hs i hi
      rw [Nat.testBit_or, Bool.or_eq_true] at this
      rcases this with h | h
      · exact Or.inl (Dj_uniq w4 hc ha (and_ne0.mpr ⟨i, hi, h⟩))
      · exact Or.inr (Dj_uniq w4 hc hb (and_ne0.mpr ⟨i, hi, h⟩))
    rcases hR with e | ⟨hk, A, B, C, e, hB, hX⟩
    · exfalso
      obtain ⟨f, hf, f1, f2⟩ := third hnd h3 a b
      rcases inab f hf (fun i hi => by rw [e, w3, orL_bit]; exact ⟨f, hf, hi⟩) with h | h
      · exact f1 h
      · exact f2 h
    · refine ⟨hk, ?_⟩
      have hBm : ∀ c ∈ B, c ∈ ch M := fun c hc => by rw [e]; simp [hc]
      have hBn : B.Nodup := by
        have h' := hnd
        rw [e] at h'
        exact (List.nodup_append.mp (List.nodup_append.mp h').2.1).1
      have hBi : ∀ x, x ∈ B ↔ x = a ∨ x = b := by
        intro x
        constructor
        · intro hx
          exact inab x (hBm x hx) (fun i hi => by rw [hX, orL_bit]; exact ⟨x, hx, hi⟩)
        · rintro (rfl | rfl)
          · obtain ⟨i, hi⟩ := Nat.exists_testBit_of_ne_zero (Wf_ne0 x (w5 x ha))
            obtain ⟨c, hc, hci⟩ := (orL_bit st B i).mp (by rw [← hX]; exact subA i hi)
            rw [Dj_uniq w4 ha (hBm c hc) (and_ne0.mpr ⟨i, hi, hci⟩)]; exact hc
          · obtain ⟨i, hi⟩ := Nat.exists_testBit_of_ne_zero (Wf_ne0 x (w5 x hb))
            obtain ⟨c, hc, hci⟩ := (orL_bit st B i).mp (by rw [← hX]; exact subB i hi)
            rw [Dj_uniq w4 hb (hBm c hc) (and_ne0.mpr ⟨i, hi, hci⟩)]; exact hc
      rcases two_list hBn hab hBi with rfl | rfl
      · exact ⟨A, C, Or.inl (by rw [e]; simp)⟩
      · exact ⟨A, C, Or.inr (by rw [e]; simp)⟩
  · rintro ⟨hk, A, B, e⟩
    refine ⟨h2, hsub, (sure_iff d root hwd _ h2 hsub).mpr ⟨N, hN, Or.inr ⟨hk, ?_⟩⟩⟩
    rcases e with e | e
    · exact ⟨A, [a, b], B, by rw [e]; simp, by simp, by simp [orL]⟩
    · exact ⟨A, [b, a], B, by rw [e]; simp, by simp, by simp [orL, Nat.or_comm]⟩
theorem kind_iff {kd : Nat → Bool} {ch : Nat → List Nat} {st : Nat → Nat} {d root : Nat} (hwd : WfD kd ch st d root) {N : Nat} (hN : N ∈ ndD ch d root) (S : List Nat) (hS : S.Perm (ch N)) : kd N = true ↔ (2 < S.length ∧ ∃ i j, i < j ∧ j < S.length ∧ SureS kd ch st root (st (S.getD i 0) ||| st (S.getD j 0))) := by
  obtain ⟨n1, n2, n3⟩ := nd_sub d root hwd N hN
  obtain ⟨w1, w2, w3, w4, w5⟩ := (Wf_node n3).mp n2
  have hnd : (ch N).Nodup := Dj_nodup w4 (fun c hc => Wf_ne0 c (w5 c hc))
  have hSn : S.Nodup := hS.symm.nodup hnd
  have hl := hS.length_eq
  have hget : ∀ i, i < S.length → S.getD i 0 ∈ ch N := fun i hi => hS.mem_iff.mp (by
    rw [List.getD_eq_getElem?_getD, List.getElem?_eq_getElem hi]; exact List.getElem_mem hi)
  have hne : ∀ i j, i < j → j < S.length → S.getD i 0 ≠ S.getD j 0 := by
    intro i j hij hj e
    rw [List.getD_eq_getElem?_getD, List.getD_eq_getElem?_getD, List.getElem?_eq_getElem hj, List.getElem?_eq_getElem (by omega)] at e
    simp only [Option.getD_some] at e
    have := (List.nodup_iff_pairwise_ne.mp hSn)
    exact List.pairwise_iff_getElem.mp this i j (by omega) hj hij e
  constructor
  · intro hk
    have h3 := w2 hk
    refine ⟨by omega, ?_⟩
    match hc : ch N, h3 with
    | a :: b :: C, _ =>
      have ha : a ∈ S := hS.mem_iff.mpr (by rw [hc]; simp)
      have hb : b ∈ S := hS.mem_iff.mpr (by rw [hc]; simp)
      have hab : a ≠ b := by
        intro e; rw [hc] at hnd; have := (List.nodup_cons.mp hnd).1; rw [e] at this; simp at this
      obtain ⟨i, hi, ei⟩ := List.getElem_of_mem ha
      obtain ⟨j, hj, ej⟩ := List.getElem_of_mem hb
      have gi : S.getD i 0 = a := by rw [List.getD_eq_getElem?_getD, List.getElem?_eq_getElem hi]; simpa using ei
      have gj : S.getD j 0 = b := by rw [List.getD_eq_getElem?_getD, List.getElem?_eq_getElem hj]; simpa using ej
      have hsu := (pair_sure hwd hN (a := a) (b := b) (by rw [hc]; simp) (by rw [hc]; simp) hab (w2 hk)).mpr ⟨hk, [], C, Or.inl (by rw [hc]; rfl)⟩
      rcases Nat.lt_trichotomy i j with h | h | h
      · exact ⟨i, j, h, hj, by rw [gi, gj]; exact hsu⟩
      · subst h; exact absurd (gi.symm.trans gj) hab
      · exact ⟨j, i, h, hi, by rw [gi, gj, Nat.or_comm]; exact hsu⟩
  · rintro ⟨h3, i, j, hij, hj, hsu⟩
    exact ((pair_sure hwd hN (hget i (by omega)) (hget j hj) (hne i j hij hj) (by omega)).mp hsu).1
