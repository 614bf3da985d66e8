-- ===== a node changed deep in a tree =====
/-- along the way down to N nothing has changed; beside it neither, and S isn't there -/
def Ab (kd kd2 : Nat → Bool) (ch ch2 : Nat → List Nat) (st : Nat → Nat) (S N : Nat) : Nat → Nat → Prop
  | 0, id => id = N
  | k + 1, id => 8 ≤ id ∧ ch2 id = ch id ∧ kd2 id = kd id ∧ ∃ X c Y, ch id = X ++ c :: Y ∧ Ab kd kd2 ch ch2 st S N k c ∧ ∀ e, e ∈ X ∨ e ∈ Y → (∀ r, Fr kd2 ch2 e r ↔ Fr kd ch e r) ∧ stt st S e = 0
theorem ab_list {P P2 : Nat → List Nat → Prop} {st : Nat → Nat} {S c : Nat} (hc : ∀ r, P2 c r ↔ (P c r ∧ Cons S r)) : ∀ {L : List Nat} {X Y : List Nat} {r : List Nat}, L = X ++ c :: Y → (∀ e, e ∈ X ∨ e ∈ Y → (∀ r, P2 e r ↔ P e r) ∧ stt st S e = 0 ∧ Shw st S P e) → (SeqR P2 L r ↔ (SeqR P L r ∧ Cons S r)) := by
  rintro L X Y r rfl hE
  have hX : ∀ {x}, SeqR P2 X x ↔ SeqR P X x := SeqR_congr (fun e he => (hE e (Or.inl he)).1)
  have hY : ∀ {x}, SeqR P2 Y x ↔ SeqR P Y x := SeqR_congr (fun e he => (hE e (Or.inr he)).1)
  have nX : ∀ {x}, SeqR P X x → noS S x := fun h => ((all_state (fun e he => (hE e (Or.inl he)).2.2) h).2).mpr (fun e he => (hE e (Or.inl he)).2.1)
  have nY : ∀ {x}, SeqR P Y x → noS S x := fun h => ((all_state (fun e he => (hE e (Or.inr he)).2.2) h).2).mpr (fun e he => (hE e (Or.inr he)).2.1)
  rw [SeqR_app, SeqR_app]
  constructor
  · rintro ⟨x, t, rfl, h1, a, y, rfl, h2, h3⟩
    have h1 := hX.mp h1
    have h3 := hY.mp h3
    have h2 := (hc a).mp h2
    refine ⟨⟨x, a ++ y, rfl, h1, a, y, rfl, h2.1, h3⟩, ?_⟩
    rw [cons_E (nX h1), cons_E' (nY h3)]; exact h2.2
  · rintro ⟨⟨x, t, rfl, h1, a, y, rfl, h2, h3⟩, hC⟩
    rw [cons_E (nX h1), cons_E' (nY h3)] at hC
    exact ⟨x, a ++ y, rfl, hX.mpr h1, a, y, rfl, (hc a).mpr ⟨h2, hC⟩, hY.mpr h3⟩
theorem split_perm {c : Nat} {X Y M : List Nat} (h : M.Perm (X ++ c :: Y)) (hn : (X ++ c :: Y).Nodup) : ∃ X2 Y2, M = X2 ++ c :: Y2 ∧ ∀ e, e ∈ X2 ∨ e ∈ Y2 → e ∈ X ∨ e ∈ Y := by
  have hc : c ∈ M := h.mem_iff.mpr (by simp)
  obtain ⟨X2, Y2, rfl⟩ := List.append_of_mem hc
  refine ⟨X2, Y2, rfl, fun e he => ?_⟩
  have hn2 : (X2 ++ c :: Y2).Nodup := h.symm.nodup hn
  have hne : e ≠ c := by
    rintro rfl
    obtain ⟨-, n2, n3⟩ := List.nodup_append.mp hn2
    rcases he with he | he
    · exact n3 e he e (by simp) rfl
    · exact (List.nodup_cons.mp n2).1 he
  have : e ∈ X ++ c :: Y := h.mem_iff.mp (by rcases he with he | he <;> simp [he])
  simp at this
  rcases this with h1 | h1 | h1
  · exact Or.inl h1
  · exact absurd h1 hne
  · exact Or.inr h1
theorem ab_ok {kd kd2 : Nat → Bool} {ch ch2 : Nat → List Nat} {st : Nat → Nat} {S N : Nat} (hN : ∀ r, Fr kd2 ch2 N r ↔ (Fr kd ch N r ∧ Cons S r)) : ∀ (k id : Nat), Wf kd ch st id → Ab kd kd2 ch ch2 st S N k id → ∀ r, Fr kd2 ch2 id r ↔ (Fr kd ch id r ∧ Cons S r) := by
  intro k
  induction k with
  | zero => intro id _ h r; rw [show id = N from h]; exact hN r
  | succ k ih =>
    rintro id hw ⟨hid, e1, e2, X, c, Y, ec, hAb, hE⟩ r
    obtain ⟨-, -, -, w4, w5⟩ := (Wf_node hid).mp hw
    have hnd : (ch id).Nodup := Dj_nodup w4 (fun c hc => Wf_ne0 c (w5 c hc))
    have hc := ih c (w5 c (by rw [ec]; simp)) hAb
    have key : ∀ L, OrdR (kd id) (ch id) L → ∀ r, (SeqR (Fr kd2 ch2) L r ↔ (SeqR (Fr kd ch) L r ∧ Cons S r)) := by
      intro L hL r
      have hp := OrdR_perm hL
      rw [ec] at hp hnd
      obtain ⟨X2, Y2, e3, hsub⟩ := split_perm hp hnd
      exact ab_list hc e3 (fun e he => by
        have h1 := hE e (hsub e he)
        exact ⟨h1.1, h1.2, Wf_shw (w5 e (by rw [ec]; have := hsub e he; rcases this with h | h <;> simp [h]))⟩)
    rw [Fr_node hid, Fr_node hid, e1, e2]
    constructor
    · rintro ⟨L, h1, h2⟩
      have := (key L h1 r).mp h2
      exact ⟨⟨L, h1, this.1⟩, this.2⟩
    · rintro ⟨⟨L, h1, h2⟩, h3⟩
      exact ⟨L, h1, (key L h1 r).mpr ⟨h2, h3⟩⟩
/-- the same tree: what is below an id is unchanged -/
theorem Fr_same {kd kd2 : Nat → Bool} {ch ch2 : Nat → List Nat} {st : Nat → Nat} : ∀ (d id : Nat), WfD kd ch st d id → (∀ i ∈ ndD ch d id, kd2 i = kd i ∧ ch2 i = ch i) → ∀ r, Fr kd2 ch2 id r ↔ Fr kd ch id r := by
  intro d
  induction d with
  | zero => intro id h; exact absurd h (by simp [WfD])
  | succ d ih =>
    intro id hw hs r
    by_cases h : id < 8
    · rw [Fr_leaf h, Fr_leaf h]
    · unfold WfD at hw
      rw [if_neg h] at hw
      unfold ndD at hs
      rw [if_neg h] at hs
      obtain ⟨e1, e2⟩ := hs id (by simp)
      rw [Fr_node (by omega), Fr_node (by omega), e1, e2]
      have : ∀ L, OrdR (kd id) (ch id) L → (SeqR (Fr kd2 ch2) L r ↔ SeqR (Fr kd ch) L r) := fun L hL => SeqR_congr (fun c hc r => ih c (hw.2.2.2.2 c ((OrdR_mem hL).mp hc)) (fun i hi => hs i (by simp; exact Or.inr ⟨c, (OrdR_mem hL).mp hc, hi⟩)) r)
      constructor
      · rintro ⟨L, h1, h2⟩; exact ⟨L, h1, (this L h1).mp h2⟩
      · rintro ⟨L, h1, h2⟩; exact ⟨L, h1, (this L h1).mpr h2⟩
theorem WfD_same {kd kd2 : Nat → Bool} {ch ch2 : Nat → List Nat} {st st2 : Nat → Nat} : ∀ (d id : Nat), WfD kd ch st d id → (∀ i ∈ ndD ch d id, kd2 i = kd i ∧ ch2 i = ch i ∧ st2 i = st i) → (∀ i, i < 8 → st2 i = st i) → WfD kd2 ch2 st2 d id := by
  intro d
  induction d with
  | zero => intro id h; exact absurd h (by simp [WfD])
  | succ d ih =>
    intro id hw hs hl
    have hw' := hw
    unfold WfD at hw ⊢
    by_cases h : id < 8
    · rw [if_pos h] at hw ⊢; rw [hl id h]; exact hw
    · rw [if_neg h] at hw ⊢
      unfold ndD at hs
      rw [if_neg h] at hs
      obtain ⟨e1, e2, e3⟩ := hs id (by simp)
      have hst : ∀ c ∈ ch id, st2 c = st c := by
        intro c hc
        by_cases hc8 : c < 8
        · exact hl c hc8
        · have hwc := hw.2.2.2.2 c hc
          cases d with
          | zero => exact absurd hwc (by simp [WfD])
          | succ d => exact (hs c (by simp; exact Or.inr ⟨c, hc, by unfold ndD; rw [if_neg hc8]; simp⟩)).2.2
      have hor : ∀ L : List Nat, (∀ c ∈ L, st2 c = st c) → orL st2 L = orL st L := by
        intro L
        induction L with
        | nil => intro _; rfl
        | cons c L ih2 => intro h; simp only [orL]; rw [h c (by simp), ih2 (fun e he => h e (by simp [he]))]
      rw [e1, e2, e3, hor _ hst]
      refine ⟨hw.1, hw.2.1, hw.2.2.1, ?_, fun c hc => ih c (hw.2.2.2.2 c hc) (fun i hi => hs i (by simp; exact Or.inr ⟨c, hc, hi⟩)) hl⟩
      have := hw.2.2.2.1
      unfold Dj at this ⊢
      refine List.Pairwise.imp_of_mem ?_ this
      intro a b ha hb hab
      rw [hst a ha, hst b hb]; exact hab
