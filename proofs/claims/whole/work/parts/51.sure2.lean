theorem nd_sub {kd : Nat → Bool} {ch : Nat → List Nat} {st : Nat → Nat} : ∀ (d id : Nat), WfD kd ch st d id → ∀ N ∈ ndD ch d id, subM (st N) (st id) ∧ Wf kd ch st N ∧ 8 ≤ N := by
  intro d
  induction d with
  | zero => intro id h; exact absurd h (by simp [WfD])
  | succ d ih =>
    intro id hw N hN
    unfold ndD at hN
    by_cases h : id < 8
    · rw [if_pos h] at hN; simp at hN
    · rw [if_neg h] at hN
      have hw' := hw
      unfold WfD at hw
      rw [if_neg h] at hw
      rcases List.mem_cons.mp hN with rfl | hN
      · exact ⟨fun i hi => hi, ⟨_, hw'⟩, by omega⟩
      · obtain ⟨c, hc, hN⟩ := List.mem_flatMap.mp hN
        obtain ⟨h1, h2, h3⟩ := ih c (hw.2.2.2.2 c hc) N hN
        refine ⟨fun i hi => ?_, h2, h3⟩
        rw [hw.2.2.1, orL_bit]
        exact ⟨c, hc, h1 i hi⟩
theorem run_sub {kd : Nat → Bool} {ch : Nat → List Nat} {st : Nat → Nat} {N S : Nat} (hN : 8 ≤ N) (hw : Wf kd ch st N) (h : Run kd ch st N S) : subM S (st N) := by
  rcases h with rfl | ⟨-, A, B, C, e, -, rfl⟩
  · exact fun i hi => hi
  · intro i hi
    obtain ⟨-, -, w3, -, -⟩ := (Wf_node hN).mp hw
    rw [w3, orL_bit]
    obtain ⟨c, hc, h1⟩ := (orL_bit st B i).mp hi
    exact ⟨c, by rw [e]; simp [hc], h1⟩
theorem run_sure {kd : Nat → Bool} {ch : Nat → List Nat} {st : Nat → Nat} {N S : Nat} (hN : 8 ≤ N) (hw : Wf kd ch st N) (h : Run kd ch st N S) : ∀ r, Fr kd ch N r → Cons S r := by
  intro r hr
  rcases h with rfl | ⟨hk, A, B, C, e, -, rfl⟩
  · exact all_cons (fun x hx => ((Fr_set N hw r hr).2 x).mp hx)
  · obtain ⟨-, -, w3, w4, w5⟩ := (Wf_node hN).mp hw
    have hst : ∀ c ∈ B, stt st (orL st B) c = 2 := fun c hc => (stt2_iff (Wf_ne0 c (w5 c (by rw [e]; simp [hc])))).mpr (fun i hi => (orL_bit st B i).mpr ⟨c, hc, hi⟩)
    have hdj : ∀ c, c ∈ A ∨ c ∈ C → stt st (orL st B) c = 0 := by
      intro c hc
      rw [stt0_iff]
      intro i hi
      cases hb : (orL st B).testBit i with
      | false => rfl
      | true =>
        exfalso
        obtain ⟨b, hb, h1⟩ := (orL_bit st B i).mp hb
        have w4' := w4
        unfold Dj at w4'
        rw [e] at w4'
        obtain ⟨p1, p2, p3⟩ := List.pairwise_append.mp w4'
        obtain ⟨p4, p5, p6⟩ := List.pairwise_append.mp p2
        rcases hc with hc | hc
        · exact and_ne0.mpr ⟨i, hi, h1⟩ (p3 c hc b (by simp [hb]))
        · exact and_ne0.mpr ⟨i, h1, hi⟩ (p6 b hb c hc)
    have key : ∀ r, SeqR (Fr kd ch) (ch N) r → Cons (orL st B) r := by
      intro r hr
      rw [e, SeqR_app] at hr
      obtain ⟨x, t, rfl, h1, h2⟩ := hr
      rw [SeqR_app] at h2
      obtain ⟨b, y, rfl, h3, h4⟩ := h2
      have nx := ((all_state (fun d hd => Wf_shw (S := orL st B) (w5 d (by rw [e]; simp [hd]))) h1).2).mpr (fun c hc => hdj c (Or.inl hc))
      have ny := ((all_state (fun d hd => Wf_shw (S := orL st B) (w5 d (by rw [e]; simp [hd]))) h4).2).mpr (fun c hc => hdj c (Or.inr hc))
      have ab := ((all_state (fun d hd => Wf_shw (S := orL st B) (w5 d (by rw [e]; simp [hd]))) h3).1).mpr hst
      exact ⟨x, b, y, by simp, nx, ab, ny⟩
    obtain ⟨L, h1, h2⟩ := (Fr_node hN).mp hr
    unfold OrdR at h1
    rw [if_pos hk] at h1
    rcases h1 with rfl | rfl
    · exact key r h2
    · have := SeqR_rev (fun c _ r hr => Fr_rev hr) h2
      rw [List.reverse_reverse] at this
      exact cons_rev.mp (key _ this)
theorem two_len {B : List Nat} (h : 2 ≤ B.length) (hn : B.Nodup) (c : Nat) : ∃ b ∈ B, b ≠ c := by
  match B, h with
  | a :: b :: B, _ =>
    by_cases e : a = c
    · refine ⟨b, by simp, ?_⟩
      rintro rfl
      have := (List.nodup_cons.mp hn).1
      rw [e] at this; simp at this
    · exact ⟨a, by simp, e⟩
/-- a set within one part c is side by side in all rows just when it is in all of c's -/
theorem sure_down {kd : Nat → Bool} {ch : Nat → List Nat} {st : Nat → Nat} {id c S : Nat} (hid : 8 ≤ id) (hw : Wf kd ch st id) (hc : c ∈ ch id) (hS : subM S (st c)) : (∀ r, Fr kd ch id r → Cons S r) ↔ (∀ r, Fr kd ch c r → Cons S r) := by
  obtain ⟨-, -, w3, w4, w5⟩ := (Wf_node hid).mp hw
  have hnd : (ch id).Nodup := Dj_nodup w4 (fun c hc => Wf_ne0 c (w5 c hc))
  have h0 : ∀ e ∈ ch id, e ≠ c → stt st S e = 0 := by
    intro e he hne
    rw [stt0_iff]
    intro i hi
    cases hs : S.testBit i with
    | false => rfl
    | true => exact absurd (Dj_uniq w4 he hc (and_ne0.mpr ⟨i, hi, hS i hs⟩)) hne
  have key : ∀ X Y x a y, (∀ e, e ∈ X ∨ e ∈ Y → e ∈ ch id ∧ e ≠ c) → SeqR (Fr kd ch) X x → SeqR (Fr kd ch) Y y → (Cons S (x ++ (a ++ y)) ↔ Cons S a) := by
    intro X Y x a y hE hx hy
    have nx := ((all_state (fun d hd => Wf_shw (S := S) (w5 d (hE d (Or.inl hd)).1)) hx).2).mpr (fun e he => h0 e (hE e (Or.inl he)).1 (hE e (Or.inl he)).2)
    have ny := ((all_state (fun d hd => Wf_shw (S := S) (w5 d (hE d (Or.inr hd)).1)) hy).2).mpr (fun e he => h0 e (hE e (Or.inr he)).1 (hE e (Or.inr he)).2)
    rw [cons_E nx, cons_E' ny]
  have sides : ∀ L : List Nat, L.Perm (ch id) → ∃ X Y, L = X ++ c :: Y ∧ ∀ e, e ∈ X ∨ e ∈ Y → e ∈ ch id ∧ e ≠ c := by
    intro L hL
    obtain ⟨X, Y, rfl⟩ := List.append_of_mem (hL.mem_iff.mpr hc)
    refine ⟨X, Y, rfl, fun e he => ⟨hL.mem_iff.mp (by rcases he with h | h <;> simp [h]), ?_⟩⟩
    rintro rfl
    obtain ⟨-, n2, n3⟩ := List.nodup_append.mp (hL.symm.nodup hnd)
    rcases he with he | he
    · exact n3 e he e (by simp) rfl
    · exact (List.nodup_cons.mp n2).1 he
  constructor
  · intro h a ha
    obtain ⟨X, Y, e, hE⟩ := sides (ch id) (List.Perm.refl _)
    obtain ⟨x, hx⟩ := Seq_ex (P := Fr kd ch) X (fun d hd => Fr_ex d (w5 d (hE d (Or.inl hd)).1))
    obtain ⟨y, hy⟩ := Seq_ex (P := Fr kd ch) Y (fun d hd => Fr_ex d (w5 d (hE d (Or.inr hd)).1))
    refine (key X Y x a y hE hx hy).mp (h _ ((Fr_node hid).mpr ⟨ch id, OrdR_self _ _, ?_⟩))
    rw [e, SeqR_app]
    exact ⟨x, a ++ y, rfl, hx, a, y, rfl, ha, hy⟩
  · intro h r hr
    obtain ⟨L, h1, h2⟩ := (Fr_node hid).mp hr
    obtain ⟨X, Y, rfl, hE⟩ := sides L (OrdR_perm h1)
    rw [SeqR_app] at h2
    obtain ⟨x, t, rfl, hx, a, y, rfl, ha, hy⟩ := h2
    exact (key X Y x a y hE hx hy).mpr (h a ha)
/-- THE SETS SIDE BY SIDE IN ALL ROWS: nodes, and runs of parts of turning ones -/
theorem sure_iff {kd : Nat → Bool} {ch : Nat → List Nat} {st : Nat → Nat} : ∀ (d id : Nat), WfD kd ch st d id → ∀ S, two S → subM S (st id) → ((∀ r, Fr kd ch id r → Cons S r) ↔ ∃ N ∈ ndD ch d id, Run kd ch st N S) := by
  intro d
  induction d with
  | zero => intro id h; exact absurd h (by simp [WfD])
  | succ d ih =>
    intro id hwd S h2 hsub
    have hw : Wf kd ch st id := ⟨_, hwd⟩
    by_cases h8 : id < 8
    · exfalso
      have e := (Wf_leaf h8).mp hw
      obtain ⟨i, j, hne, hi, hj⟩ := h2
      have h1 := hsub i hi
      have h3 := hsub j hj
      rw [e, Nat.testBit_two_pow] at h1 h3
      simp at h1 h3
      exact hne (h1.symm.trans h3)
    · have hid : 8 ≤ id := by omega
      obtain ⟨w1, -, w3, w4, w5⟩ := (Wf_node hid).mp hw
      have hch : ∀ c ∈ ch id, WfD kd ch st d c := by
        unfold WfD at hwd; rw [if_neg h8] at hwd; exact hwd.2.2.2.2
      have hnd : ndD ch (d + 1) id = id :: (ch id).flatMap (ndD ch d) := by
        show (if id < 8 then [] else _) = _
        rw [if_neg h8]
      rw [hnd]
      by_cases hin : ∃ c ∈ ch id, subM S (st c)
      · obtain ⟨c, hc, hSc⟩ := hin
        rw [sure_down hid hw hc hSc, ih c (hch c hc) S h2 hSc]
        constructor
        · rintro ⟨N, hN, hR⟩
          exact ⟨N, by simp; exact Or.inr ⟨c, hc, hN⟩, hR⟩
        · rintro ⟨N, hN, hR⟩
          obtain ⟨i, -, -, hi, -⟩ := h2
          rcases List.mem_cons.mp hN with rfl | hN
          · exfalso
            have hnodup : (ch N).Nodup := Dj_nodup w4 (fun c hc => Wf_ne0 c (w5 c hc))
            have : ∃ b ∈ ch N, b ≠ c ∧ subM (st b) S := by
              rcases hR with rfl | ⟨-, A, B, C, e, hB, rfl⟩
              · obtain ⟨b, hb, hne⟩ := two_len w1 hnodup c
                exact ⟨b, hb, hne, fun i hi => by rw [w3, orL_bit]; exact ⟨b, hb, hi⟩⟩
              · have hBn : B.Nodup := by
                  rw [e] at hnodup
                  exact (List.nodup_append.mp (List.nodup_append.mp hnodup).2.1).1
                obtain ⟨b, hb, hne⟩ := two_len hB hBn c
                exact ⟨b, by rw [e]; simp [hb], hne, fun i hi => (orL_bit st B i).mpr ⟨b, hb, hi⟩⟩
            obtain ⟨b, hb, hne, hbs⟩ := this
            obtain ⟨j, hj⟩ := Nat.exists_testBit_of_ne_zero (Wf_ne0 b (w5 b hb))
            exact hne (Dj_uniq w4 hb hc (and_ne0.mpr ⟨j, hj, hSc j (hbs j hj)⟩))
          · obtain ⟨c2, hc2, hN⟩ := List.mem_flatMap.mp hN
            obtain ⟨n1, n2, n3⟩ := nd_sub d c2 (hch c2 hc2) N hN
            have := n1 i (run_sub n3 n2 hR i hi)
            have e := Dj_uniq w4 hc2 hc (and_ne0.mpr ⟨i, this, hSc i hi⟩)
            subst e
            exact ⟨N, hN, hR⟩
      · have hn : 2 ≤ nE st S (ch id) := by
          apply Nat.le_of_not_lt
          intro hlt
          apply hin
          obtain ⟨i, j, -, hi, -⟩ := h2
          obtain ⟨c, hc, hci⟩ := (orL_bit st (ch id) i).mp (by rw [← w3]; exact hsub i hi)
          refine ⟨c, hc, fun k hk => ?_⟩
          obtain ⟨c2, hc2, hck⟩ := (orL_bit st (ch id) k).mp (by rw [← w3]; exact hsub k hk)
          have f1 : c ∈ (ch id).filter (fun c => !(stt st S c == 0)) := by
            rw [List.mem_filter]
            refine ⟨hc, ?_⟩
            cases hb : (stt st S c == 0) with
            | false => rfl
            | true =>
              have := stt0_iff.mp (by simpa using hb) i hci
              rw [hi] at this; cases this
          have f2 : c2 ∈ (ch id).filter (fun c => !(stt st S c == 0)) := by
            rw [List.mem_filter]
            refine ⟨hc2, ?_⟩
            cases hb : (stt st S c2 == 0) with
            | false => rfl
            | true =>
              have := stt0_iff.mp (by simpa using hb) k hck
              rw [hk] at this; cases this
          unfold nE at hlt
          match hq : (ch id).filter (fun c => !(stt st S c == 0)), hlt with
          | [], _ => rw [hq] at f1; simp at f1
          | [z], _ =>
            rw [hq] at f1 f2
            simp at f1 f2
            rw [f1, ← f2]; exact hck
          | _ :: _ :: _, h => simp at h; omega
        constructor
        · intro hS
          exact ⟨id, by simp, sure_here hid hw hn hsub hS⟩
        · rintro ⟨N, hN, hR⟩
          rcases List.mem_cons.mp hN with rfl | hN
          · exact run_sure hid hw hR
          · exfalso
            obtain ⟨c2, hc2, hN⟩ := List.mem_flatMap.mp hN
            obtain ⟨n1, n2, n3⟩ := nd_sub d c2 (hch c2 hc2) N hN
            exact hin ⟨c2, hc2, fun i hi => n1 i (run_sub n3 n2 hR i hi)⟩
