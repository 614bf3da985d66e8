def Crs (X Z : Nat) : Prop := X &&& Z ≠ 0 ∧ (∃ i, X.testBit i = true ∧ Z.testBit i = false) ∧ ∃ i, Z.testBit i = true ∧ X.testBit i = false
def SureS (kd : Nat → Bool) (ch : Nat → List Nat) (st : Nat → Nat) (root X : Nat) : Prop := two X ∧ subM X (st root) ∧ ∀ r, Fr kd ch root r → Cons X r
theorem nd_in {ch : Nat → List Nat} {d id N : Nat} (h8 : ¬ id < 8) : N ∈ ndD ch (d + 1) id ↔ N = id ∨ ∃ c ∈ ch id, N ∈ ndD ch d c := by
  show N ∈ (if id < 8 then [] else _) ↔ _
  rw [if_neg h8]; simp
theorem lam {kd : Nat → Bool} {ch : Nat → List Nat} {st : Nat → Nat} : ∀ (d id : Nat), WfD kd ch st d id → ∀ N ∈ ndD ch d id, ∀ M ∈ ndD ch d id, ∀ Z, Run kd ch st M Z → subM (st N) Z ∨ subM Z (st N) ∨ st N &&& Z = 0 := by
  intro d
  induction d with
  | zero => intro id h; exact absurd h (by simp [WfD])
  | succ d ih =>
    intro id hwd N hN M hM Z hZ
    by_cases h8 : id < 8
    · unfold ndD at hN; rw [if_pos h8] at hN; simp at hN
    · have hid : 8 ≤ id := by omega
      have hw : Wf kd ch st id := ⟨_, hwd⟩
      obtain ⟨w1, -, w3, w4, w5⟩ := (Wf_node hid).mp hw
      have hch : ∀ c ∈ ch id, WfD kd ch st d c := by
        unfold WfD at hwd; rw [if_neg h8] at hwd; exact hwd.2.2.2.2
      obtain ⟨m1, m2, m3⟩ := nd_sub (d + 1) id hwd M hM
      rcases (nd_in h8).mp hN with rfl | ⟨c, hc, hN⟩
      · exact Or.inr (Or.inl (fun i hi => m1 i (run_sub m3 m2 hZ i hi)))
      · obtain ⟨n1, n2, n3⟩ := nd_sub d c (hch c hc) N hN
        have dis : ∀ e ∈ ch id, e ≠ c → ∀ i, (st N).testBit i = true → (st e).testBit i = false := by
          intro e he hne i hi
          cases hb : (st e).testBit i with
          | false => rfl
          | true => exact absurd (Dj_uniq w4 he hc (and_ne0.mpr ⟨i, hb, n1 i hi⟩)) hne
        rcases (nd_in h8).mp hM with rfl | ⟨c2, hc2, hM⟩
        · rcases hZ with rfl | ⟨-, A, B, C, e, -, rfl⟩
          · exact Or.inl (fun i hi => by rw [w3, orL_bit]; exact ⟨c, hc, n1 i hi⟩)
          · by_cases hcB : c ∈ B
            · exact Or.inl (fun i hi => (orL_bit st B i).mpr ⟨c, hcB, n1 i hi⟩)
            · refine Or.inr (Or.inr ?_)
              apply Nat.eq_of_testBit_eq
              intro i
              rw [Nat.testBit_and, Nat.zero_testBit]
              cases hi : (st N).testBit i with
              | false => rfl
              | true =>
                cases hb : (orL st B).testBit i with
                | false => rfl
                | true =>
                  obtain ⟨b, hb1, hb2⟩ := (orL_bit st B i).mp hb
                  have := dis b (by rw [e]; simp [hb1]) (fun z => hcB (z ▸ hb1)) i hi
                  rw [hb2] at this; cases this
        · by_cases e : c2 = c
          · subst e; exact ih c2 (hch c2 hc) N hN M hM Z hZ
          · refine Or.inr (Or.inr ?_)
            obtain ⟨p1, p2, p3⟩ := nd_sub d c2 (hch c2 hc2) M hM
            apply Nat.eq_of_testBit_eq
            intro i
            rw [Nat.testBit_and, Nat.zero_testBit]
            cases hi : (st N).testBit i with
            | false => rfl
            | true =>
              cases hb : Z.testBit i with
              | false => rfl
              | true =>
                have := dis c2 hc2 e i hi
                rw [p1 i (run_sub p3 p2 hZ i hb)] at this; cases this
theorem two_of_disj {st : Nat → Nat} {a b : Nat} (ha : st a ≠ 0) (hb : st b ≠ 0) (hd : st a &&& st b = 0) {X : Nat} (h1 : subM (st a) X) (h2 : subM (st b) X) : two X := by
  obtain ⟨i, hi⟩ := Nat.exists_testBit_of_ne_zero ha
  obtain ⟨j, hj⟩ := Nat.exists_testBit_of_ne_zero hb
  refine ⟨i, j, ?_, h1 i hi, h2 j hj⟩
  rintro rfl
  exact and_ne0.mpr ⟨i, hi, hj⟩ hd
theorem two_node {kd : Nat → Bool} {ch : Nat → List Nat} {st : Nat → Nat} {N : Nat} (hN : 8 ≤ N) (hw : Wf kd ch st N) : two (st N) := by
  obtain ⟨w1, -, w3, w4, w5⟩ := (Wf_node hN).mp hw
  match hc : ch N, w1 with
  | a :: b :: L, _ =>
    have hd : st a &&& st b = 0 := by
      have := w4; unfold Dj at this; rw [hc] at this
      exact (List.pairwise_cons.mp this).1 b (by simp)
    exact two_of_disj (Wf_ne0 a (w5 a (by rw [hc]; simp))) (Wf_ne0 b (w5 b (by rw [hc]; simp))) hd (fun i hi => by rw [w3, orL_bit]; exact ⟨a, by rw [hc]; simp, hi⟩) (fun i hi => by rw [w3, orL_bit]; exact ⟨b, by rw [hc]; simp, hi⟩)
/-- two neighbours a, b of a turning node cross a run that has one of them and more, and not the other -/
theorem crs_pair {kd : Nat → Bool} {ch : Nat → List Nat} {st : Nat → Nat} {d root N : Nat} (hwd : WfD kd ch st d root) (hN : N ∈ ndD ch d root) (hk : kd N = true) {A C : List Nat} {a b : Nat} (e : ch N = A ++ ([a, b] ++ C)) {B : List Nat} (hB : ∀ c ∈ B, c ∈ ch N) {X : Nat} (hX : X = orL st B) (h : (a ∈ B ∧ b ∉ B) ∨ (b ∈ B ∧ a ∉ B)) (hm : ∃ c ∈ B, c ≠ a ∧ c ≠ b) : ∃ Z, SureS kd ch st root Z ∧ Crs X Z := by
  obtain ⟨n1, n2, n3⟩ := nd_sub d root hwd N hN
  obtain ⟨w1, -, w3, w4, w5⟩ := (Wf_node n3).mp n2
  have ma : a ∈ ch N := by rw [e]; simp
  have mb : b ∈ ch N := by rw [e]; simp
  have hab : st a &&& st b = 0 := by
    have := w4; unfold Dj at this; rw [e] at this
    have h1 := (List.pairwise_append.mp (List.pairwise_append.mp this).2.1).1
    exact (List.pairwise_cons.mp h1).1 b (by simp)
  have hR : Run kd ch st N (orL st [a, b]) := Or.inr ⟨hk, A, [a, b], C, e, by simp, rfl⟩
  have ha : subM (st a) (orL st [a, b]) := fun i hi => (orL_bit st _ i).mpr ⟨a, by simp, hi⟩
  have hb : subM (st b) (orL st [a, b]) := fun i hi => (orL_bit st _ i).mpr ⟨b, by simp, hi⟩
  have h2 : two (orL st [a, b]) := two_of_disj (Wf_ne0 a (w5 a ma)) (Wf_ne0 b (w5 b mb)) hab ha hb
  have hsub : subM (orL st [a, b]) (st root) := fun i hi => n1 i (run_sub n3 n2 hR i hi)
  have hne : ∀ c f, c ∈ ch N → f ∈ ch N → c ≠ f → ∀ i, (st c).testBit i = true → (st f).testBit i = false := by
    intro c f hc hf hcf i hi
    cases hb : (st f).testBit i with
    | false => rfl
    | true => exact absurd (Dj_uniq w4 hc hf (and_ne0.mpr ⟨i, hi, hb⟩)) hcf
  refine ⟨orL st [a, b], ⟨h2, hsub, (sure_iff d root hwd _ h2 hsub).mpr ⟨N, hN, hR⟩⟩, ?_⟩
  subst hX
  obtain ⟨c, hc, hca, hcb⟩ := hm
  have other : ∃ i, (orL st B).testBit i = true ∧ (orL st [a, b]).testBit i = false := by
    obtain ⟨i, hi⟩ := Nat.exists_testBit_of_ne_zero (Wf_ne0 c (w5 c (hB c hc)))
    refine ⟨i, (orL_bit st B i).mpr ⟨c, hc, hi⟩, ?_⟩
    cases hz : (orL st [a, b]).testBit i with
    | false => rfl
    | true =>
      obtain ⟨f, hf, hfi⟩ := (orL_bit st _ i).mp hz
      simp at hf
      rcases hf with rfl | rfl
      · have := hne c f (hB c hc) ma hca i hi; rw [hfi] at this; cases this
      · have := hne c f (hB c hc) mb hcb i hi; rw [hfi] at this; cases this
  have outs : ∀ x, x ∈ ch N → x ∉ B → ∀ i, (st x).testBit i = true → (orL st B).testBit i = false := by
    intro x hx hxB i hi
    cases hz : (orL st B).testBit i with
    | false => rfl
    | true =>
      obtain ⟨f, hf, hfi⟩ := (orL_bit st B i).mp hz
      have := hne x f hx (hB f hf) (fun z => hxB (z ▸ hf)) i hi
      rw [hfi] at this; cases this
  rcases h with ⟨i1, i2⟩ | ⟨i1, i2⟩
  · obtain ⟨i, hi⟩ := Nat.exists_testBit_of_ne_zero (Wf_ne0 a (w5 a ma))
    obtain ⟨j, hj⟩ := Nat.exists_testBit_of_ne_zero (Wf_ne0 b (w5 b mb))
    exact ⟨and_ne0.mpr ⟨i, (orL_bit st B i).mpr ⟨a, i1, hi⟩, ha i hi⟩, other, j, hb j hj, outs b mb i2 j hj⟩
  · obtain ⟨i, hi⟩ := Nat.exists_testBit_of_ne_zero (Wf_ne0 b (w5 b mb))
    obtain ⟨j, hj⟩ := Nat.exists_testBit_of_ne_zero (Wf_ne0 a (w5 a ma))
    exact ⟨and_ne0.mpr ⟨i, (orL_bit st B i).mpr ⟨b, i1, hi⟩, hb i hi⟩, other, j, ha j hj, outs a ma i2 j hj⟩
/-- THE NODES: sets side by side in all rows that no such set crosses -/
theorem strong_iff {kd : Nat → Bool} {ch : Nat → List Nat} {st : Nat → Nat} {d root : Nat} (hwd : WfD kd ch st d root) (X : Nat) : (SureS kd ch st root X ∧ ∀ Z, SureS kd ch st root Z → ¬ Crs X Z) ↔ ∃ N ∈ ndD ch d root, X = st N := by
  constructor
  · rintro ⟨⟨h2, hsub, hS⟩, hcr⟩
    obtain ⟨N, hN, hR⟩ := (sure_iff d root hwd X h2 hsub).mp hS
    rcases hR with e | ⟨hk, A, B, C, e, hB, hX⟩
    · exact ⟨N, hN, e⟩
    · obtain ⟨n1, n2, n3⟩ := nd_sub d root hwd N hN
      obtain ⟨w1, -, w3, w4, w5⟩ := (Wf_node n3).mp n2
      have hnd : (ch N).Nodup := Dj_nodup w4 (fun c hc => Wf_ne0 c (w5 c hc))
      have hBm : ∀ c ∈ B, c ∈ ch N := fun c hc => by rw [e]; simp [hc]
      have hnd' := hnd
      rw [e] at hnd'
      obtain ⟨nA, nBC, nABC⟩ := List.nodup_append.mp hnd'
      obtain ⟨nB, nC, nBC2⟩ := List.nodup_append.mp nBC
      cases C with
      | cons c C =>
        exfalso
        rcases List.eq_nil_or_concat B with rfl | ⟨B2, b, rfl⟩
        · simp at hB
        · simp only [List.concat_eq_append] at *
          obtain ⟨Z, hZ, hc⟩ := crs_pair hwd hN hk (A := A ++ B2) (a := b) (b := c) (C := C) (by rw [e]; simp) hBm hX (Or.inl ⟨by simp, fun z => nBC2 c z c (by simp) rfl⟩) (by
            cases B2 with
            | nil => simp at hB
            | cons x B2 =>
              refine ⟨x, by simp, ?_, ?_⟩
              · rintro rfl
                exact (List.nodup_cons.mp nB).1 (by simp)
              · rintro rfl
                exact nBC2 x (by simp) x (by simp) rfl)
          exact hcr Z hZ hc
      | nil =>
        rcases List.eq_nil_or_concat A with rfl | ⟨A2, a, rfl⟩
        · refine ⟨N, hN, ?_⟩
          simp at e
          rw [hX, w3, e]
        · exfalso
          simp only [List.concat_eq_append] at *
          match B, hB with
          | b :: b2 :: B2, _ =>
            obtain ⟨Z, hZ, hc⟩ := crs_pair hwd hN hk (A := A2) (a := a) (b := b) (C := b2 :: B2) (by rw [e]; simp) hBm hX (Or.inr ⟨by simp, fun z => nABC a (by simp) a (by simp at z ⊢; exact z) rfl⟩) ⟨b2, by simp, by
              rintro rfl
              exact nABC b2 (by simp) b2 (by simp) rfl, by
              rintro rfl
              exact (List.nodup_cons.mp nB).1 (by simp)⟩
            exact hcr Z hZ hc
  · rintro ⟨N, hN, rfl⟩
    obtain ⟨n1, n2, n3⟩ := nd_sub d root hwd N hN
    have h2 := two_node n3 n2
    refine ⟨⟨h2, n1, (sure_iff d root hwd _ h2 n1).mpr ⟨N, hN, Or.inl rfl⟩⟩, ?_⟩
    rintro Z ⟨z2, zsub, zS⟩ ⟨c1, ⟨i, i1, i2⟩, j, j1, j2⟩
    obtain ⟨M, hM, hR⟩ := (sure_iff d root hwd Z z2 zsub).mp zS
    rcases lam d root hwd N hN M hM Z hR with h | h | h
    · have := h i i1; rw [i2] at this; cases this
    · have := h j j1; rw [j2] at this; cases this
    · exact c1 h
