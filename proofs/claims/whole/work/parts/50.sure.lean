-- ===== which sets are side by side in every row of a tree =====
def two (X : Nat) : Prop := ∃ i j, i ≠ j ∧ X.testBit i = true ∧ X.testBit j = true
def subM (X Y : Nat) : Prop := ∀ i, X.testBit i = true → Y.testBit i = true
theorem subM_anti {X Y : Nat} (h1 : subM X Y) (h2 : subM Y X) : X = Y := by
  apply Nat.eq_of_testBit_eq
  intro i
  cases hx : X.testBit i <;> cases hy : Y.testBit i
  · rfl
  · have := h2 i hy; rw [hx] at this; cases this
  · have := h1 i hx; rw [hy] at this; cases this
  · rfl
def Run (kd : Nat → Bool) (ch : Nat → List Nat) (st : Nat → Nat) (N X : Nat) : Prop := X = st N ∨ (kd N = true ∧ ∃ A B C, ch N = A ++ (B ++ C) ∧ 2 ≤ B.length ∧ X = orL st B)
theorem pre_suf_mix {S : Nat} {a : List Nat} (h1 : Suf S a) (h2 : Pre S a) (hm : mixS S a) : False := by
  obtain ⟨⟨x, hx, hx1⟩, ⟨y, hy, hy1⟩⟩ := hm
  cases a with
  | nil => simp at hx
  | cons z a =>
    rw [suf_cons] at h1
    rw [pre_cons] at h2
    cases hz : S.testBit z with
    | true =>
      rw [if_pos hz] at h1 h2
      rcases List.mem_cons.mp hy with e | hy
      · rw [e, hz] at hy1; cases hy1
      · rw [h1 y hy] at hy1; cases hy1
    | false =>
      rw [hz] at h1 h2
      simp only [Bool.false_eq_true, if_false] at h1 h2
      rcases List.mem_cons.mp hx with e | hx
      · rw [e, hz] at hx1; cases hx1
      · rw [h2 x hx] at hx1; cases hx1
theorem cons_mid_after {S : Nat} {x a y : List Nat} (hm : ∃ z ∈ a, S.testBit z = true) (hy : ¬ noS S y) (h : Cons S (x ++ (a ++ y))) : Suf S a := by
  have h2 : Cons S (a ++ y) := by
    obtain ⟨p, q, s, e, h1, h2, h3⟩ := h
    -- what is left of a list with S side by side
    have key : ∀ x r, Cons S (x ++ r) → Cons S r := by
      intro x
      induction x with
      | nil => intro r h; exact h
      | cons z x ih =>
        intro r h
        rw [List.cons_append, cons_cons] at h
        split at h
        · exact ih r (pre_Cons h)
        · exact ih r h
    exact key x _ ⟨p, q, s, e, h1, h2, h3⟩
  rw [cons_P hm] at h2
  exact h2.elim (fun z => z.1) (fun z => absurd z.2 hy)
theorem cons_mid_ahead {S : Nat} {x a y : List Nat} (hm : ∃ z ∈ a, S.testBit z = true) (hx : ¬ noS S x) (h : Cons S (x ++ (a ++ y))) : Pre S a := by
  have h1 : Cons S (y.reverse ++ (a.reverse ++ x.reverse)) := by
    have := h.rev
    simpa using this
  have := cons_mid_after (by obtain ⟨z, hz, h2⟩ := hm; exact ⟨z, by simpa using hz, h2⟩) (fun z => hx (noS_rev.mp z)) h1
  exact suf_rev.mp this
theorem all_cons {S : Nat} {r : List Nat} (h : ∀ x ∈ r, S.testBit x = true) : Cons S r := ⟨[], r, [], by simp, noS_nil, h, noS_nil⟩
/-- with S beside several parts of a node and side by side in all rows: no part is partial -/
theorem sure_nop {kd : Nat → Bool} {ch : Nat → List Nat} {st : Nat → Nat} {id S : Nat} (hid : 8 ≤ id) (hw : Wf kd ch st id) (hn : 2 ≤ nE st S (ch id)) (hS : ∀ r, Fr kd ch id r → Cons S r) : ∀ c ∈ ch id, stt st S c ≠ 1 := by
  intro c hc h1
  obtain ⟨-, -, -, w4, w5⟩ := (Wf_node hid).mp hw
  obtain ⟨X, Y, e⟩ := List.append_of_mem hc
  obtain ⟨x, hx⟩ := Seq_ex (P := Fr kd ch) X (fun d hd => Fr_ex d (w5 d (by rw [e]; simp [hd])))
  obtain ⟨y, hy⟩ := Seq_ex (P := Fr kd ch) Y (fun d hd => Fr_ex d (w5 d (by rw [e]; simp [hd])))
  obtain ⟨a, ha⟩ := Fr_ex c (w5 c hc)
  have hm := (Wf_shw (S := S) (w5 c hc) a ha).2.2.2 h1
  have hm2 : ∃ z ∈ a.reverse, S.testBit z = true := by obtain ⟨z, hz, h2⟩ := hm.1; exact ⟨z, by simpa using hz, h2⟩
  have row : ∀ b, Fr kd ch c b → Cons S (x ++ (b ++ y)) := fun b hb => hS _ ((Fr_node hid).mpr ⟨ch id, OrdR_self _ _, by
    rw [e, SeqR_app]
    exact ⟨x, b ++ y, rfl, hx, b, y, rfl, hb, hy⟩⟩)
  have r1 := row a ha
  have r2 := row a.reverse (Fr_rev ha)
  have hor : ¬ noS S x ∨ ¬ noS S y := by
    by_cases c1 : noS S x
    · right
      intro c2
      have e1 := ((all_state (fun d hd => Wf_shw (S := S) (w5 d (by rw [e]; simp [hd]))) hx).2).mp c1
      have e2 := ((all_state (fun d hd => Wf_shw (S := S) (w5 d (by rw [e]; simp [hd]))) hy).2).mp c2
      have : nE st S (ch id) ≤ 1 := by
        unfold nE
        rw [e, List.filter_append, List.filter_cons]
        have f1 : X.filter (fun c => !(stt st S c == 0)) = [] := by
          rw [List.filter_eq_nil_iff]; intro d hd; simp [e1 d hd]
        have f2 : Y.filter (fun c => !(stt st S c == 0)) = [] := by
          rw [List.filter_eq_nil_iff]; intro d hd; simp [e2 d hd]
        rw [f1, f2]
        split <;> simp
      omega
    · exact Or.inl c1
  rcases hor with h | h
  · have p1 := cons_mid_ahead hm.1 h r1
    have p2 := cons_mid_ahead hm2 h r2
    exact pre_suf_mix (pre_rev.mp p2) p1 hm
  · have p1 := cons_mid_after hm.1 h r1
    have p2 := cons_mid_after hm2 h r2
    exact pre_suf_mix p1 (suf_rev.mp p2) hm
theorem stt0_iff {st : Nat → Nat} {S c : Nat} : stt st S c = 0 ↔ ∀ i, (st c).testBit i = true → S.testBit i = false := by
  constructor
  · intro h i hi
    unfold stt at h
    split at h
    · rename_i e
      cases hs : S.testBit i with
      | false => rfl
      | true => exact absurd e (and_ne0.mpr ⟨i, hi, hs⟩)
    · split at h <;> cases h
  · intro h
    unfold stt
    rw [if_pos]
    apply Nat.eq_of_testBit_eq
    intro i
    rw [Nat.testBit_and]
    cases hi : (st c).testBit i with
    | false => simp
    | true => simp [h i hi]
theorem stt2_iff {st : Nat → Nat} {S c : Nat} (h0 : st c ≠ 0) : stt st S c = 2 ↔ subM (st c) S := by
  constructor
  · intro h i hi
    unfold stt at h
    split at h
    · cases h
    · split at h
      · rename_i e
        rw [← e, Nat.testBit_and] at hi
        simp at hi; exact hi.2
      · cases h
  · intro h
    have e : st c &&& S = st c := by
      apply Nat.eq_of_testBit_eq
      intro i
      rw [Nat.testBit_and]
      cases hi : (st c).testBit i with
      | false => simp
      | true => simp [h i hi]
    unfold stt
    rw [e, if_neg h0, if_pos rfl]
/-- several parts: S is the whole node, or a run of a turning one's parts -/
theorem sure_here {kd : Nat → Bool} {ch : Nat → List Nat} {st : Nat → Nat} {id S : Nat} (hid : 8 ≤ id) (hw : Wf kd ch st id) (hn : 2 ≤ nE st S (ch id)) (hsub : subM S (st id)) (hS : ∀ r, Fr kd ch id r → Cons S r) : Run kd ch st id S := by
  have hnop := sure_nop hid hw hn hS
  obtain ⟨-, -, w3, w4, w5⟩ := (Wf_node hid).mp hw
  have hst : ∀ c ∈ ch id, stt st S c = 0 ∨ stt st S c = 2 := fun c hc => by
    rcases stt_3 st S c with e | e | e
    · exact Or.inl e
    · exact absurd e (hnop c hc)
    · exact Or.inr e
  -- S is just the parts of state 2
  have hun : ∀ (F : List Nat), (∀ c, c ∈ ch id → (c ∈ F ↔ stt st S c = 2)) → (∀ c ∈ F, c ∈ ch id) → S = orL st F := by
    intro F hF hF2
    apply subM_anti
    · intro i hi
      obtain ⟨c, hc, h1⟩ := (orL_bit st (ch id) i).mp (by rw [← w3]; exact hsub i hi)
      rcases hst c hc with e | e
      · have := stt0_iff.mp e i h1; rw [hi] at this; cases this
      · exact (orL_bit st F i).mpr ⟨c, (hF c hc).mpr e, h1⟩
    · intro i hi
      obtain ⟨c, hc, h1⟩ := (orL_bit st F i).mp hi
      exact (stt2_iff (Wf_ne0 c (w5 c (hF2 c hc)))).mp ((hF c (hF2 c hc)).mp hc) i h1
  by_cases hall : ∀ c ∈ ch id, stt st S c = 2
  · left
    rw [w3]
    exact hun (ch id) (fun c hc => ⟨fun _ => hall c hc, fun _ => hc⟩) (fun c hc => hc)
  · right
    obtain ⟨e0, he0, he1⟩ : ∃ c ∈ ch id, stt st S c = 0 := by
      by_cases c : ∃ c ∈ ch id, stt st S c = 0
      · exact c
      · exact absurd (fun d hd => (hst d hd).elim (fun h => absurd ⟨d, hd, h⟩ c) (fun h => h)) hall
    have hs : ∀ c ∈ ch id, Shw st S (Fr kd ch) c := fun c hc => Wf_shw (w5 c hc)
    by_cases hk : kd id = true
    · refine ⟨hk, ?_⟩
      obtain ⟨r, hr⟩ := Seq_ex (ch id) (fun c hc => Fr_ex c (w5 c hc))
      obtain ⟨A, Q, F, Q2, B, e, hA, hQ, hF, hQ2, hB, -⟩ := cons_shape1 hs hn hr (hS r ((Fr_node hid).mpr ⟨_, OrdR_self _ _, hr⟩))
      have q1 : Q = [] := by
        rcases hQ with h | ⟨p, rfl, hp⟩
        · exact h
        · exact absurd hp (hnop p (by rw [e]; simp))
      have q2 : Q2 = [] := by
        rcases hQ2 with h | ⟨p, rfl, hp⟩
        · exact h
        · exact absurd hp (hnop p (by rw [e]; simp))
      subst q1; subst q2
      simp only [List.nil_append] at e
      refine ⟨A, F, B, e, ?_, ?_⟩
      · have : nE st S (ch id) = F.length := by
          unfold nE
          rw [e, List.filter_append, List.filter_append]
          have f1 : A.filter (fun c => !(stt st S c == 0)) = [] := by
            rw [List.filter_eq_nil_iff]; intro d hd; simp [hA d hd]
          have f2 : B.filter (fun c => !(stt st S c == 0)) = [] := by
            rw [List.filter_eq_nil_iff]; intro d hd; simp [hB d hd]
          have f3 : F.filter (fun c => !(stt st S c == 0)) = F := by
            rw [List.filter_eq_self]; intro d hd; simp [hF d hd]
          rw [f1, f2, f3]; simp
        omega
      · refine hun F (fun c hc => ⟨fun h => hF c h, fun h => ?_⟩) (fun c hc => by rw [e]; simp [hc])
        rw [e] at hc
        simp at hc
        rcases hc with h1 | h1 | h1
        · have := hA c h1; omega
        · exact h1
        · have := hB c h1; omega
    · exfalso
      -- an empty part between two whole ones
      have hF2 : 2 ≤ (fE st S (ch id) 2).length := by
        have : nE st S (ch id) = (fE st S (ch id) 2).length := by
          unfold nE fE
          congr 1
          apply List.filter_congr
          intro c hc
          rcases hst c hc with h | h <;> simp [h]
        omega
      match hFl : fE st S (ch id) 2, hF2 with
      | f :: g :: F, _ =>
        have hp : (f :: g :: F ++ fE st S (ch id) 0).Perm (ch id) := by
          have h1 := fE_part st S (ch id)
          have h2 : fE st S (ch id) 1 = [] := by
            cases hq : fE st S (ch id) 1 with
            | nil => rfl
            | cons p L => exact absurd (fE_mem.mp (by rw [hq]; simp : p ∈ fE st S (ch id) 1)).2 (hnop p (fE_mem.mp (by rw [hq]; simp : p ∈ fE st S (ch id) 1)).1)
          rw [h2, hFl] at h1
          simp only [List.append_nil] at h1
          exact List.perm_append_comm.trans h1
        obtain ⟨E1, E2, hE⟩ := List.append_of_mem (fE_mem.mpr ⟨he0, he1⟩ : e0 ∈ fE st S (ch id) 0)
        have hp2 : (f :: e0 :: g :: (F ++ (E1 ++ E2))).Perm (ch id) := by
          refine List.Perm.trans ?_ hp
          rw [hE, List.perm_iff_count]
          intro z
          simp only [List.cons_append, List.count_cons, List.count_append]
          omega
        obtain ⟨r, hr⟩ := Seq_ex (P := Fr kd ch) (f :: e0 :: g :: (F ++ (E1 ++ E2))) (fun c hc => Fr_ex c (w5 c (hp2.mem_iff.mp hc)))
        have hC := hS r ((Fr_node hid).mpr ⟨_, by unfold OrdR; rw [if_neg hk]; exact hp2, hr⟩)
        obtain ⟨a, t, rfl, ha, b, t2, rfl, hb, c, t3, rfl, hc, -⟩ := hr
        have mf : f ∈ ch id ∧ stt st S f = 2 := fE_mem.mp (by rw [hFl]; simp)
        have mg : g ∈ ch id ∧ stt st S g = 2 := fE_mem.mp (by rw [hFl]; simp)
        obtain ⟨sf1, -, sf3, -⟩ := hs f mf.1 a ha
        obtain ⟨se1, se2, -, -⟩ := hs e0 he0 b hb
        obtain ⟨sg1, -, sg3, -⟩ := hs g mg.1 c hc
        rw [cons_F (sf3 mf.2) sf1] at hC
        cases b with
        | nil => exact se1 rfl
        | cons z b =>
          rw [pre_P ⟨z, by simp, se2 he1 z (by simp)⟩, noS_app] at hC
          cases c with
          | nil => exact sg1 rfl
          | cons w c =>
            have h1 := hC.2.1 w (by simp)
            rw [sg3 mg.2 w (by simp)] at h1; cases h1
