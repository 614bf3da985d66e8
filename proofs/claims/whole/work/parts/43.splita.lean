def srt (st : Nat → Nat) (S : Nat) (C : List Nat) : Prop := C = fE st S C 0 ++ fE st S C 1 ++ fE st S C 2
def ori (st : Nat → Nat) (S : Nat) (C : List Nat) : List Nat := if stt st S (C.headD 0) = 0 ∨ stt st S (C.getLastD 0) = 2 then C else C.reverse
theorem ori_mem {st : Nat → Nat} {S : Nat} {C : List Nat} {c : Nat} : c ∈ ori st S C ↔ c ∈ C := by
  unfold ori; split <;> simp
theorem ori_perm {st : Nat → Nat} {S : Nat} {C : List Nat} : (ori st S C).Perm C := by
  unfold ori; split
  · exact List.Perm.refl _
  · exact List.reverse_perm _
theorem seq_suf {st : Nat → Nat} {S : Nat} {P : Nat → List Nat → Prop} {C : List Nat} {r : List Nat} (hs : ∀ c ∈ C, Shw st S P c) : (SeqR P C r ∧ Suf S r) ↔ srt st S C ∧ (fE st S C 1).length ≤ 1 ∧ ∃ ra rq rb, r = ra ++ rq ++ rb ∧ SeqR P (fE st S C 0) ra ∧ SeqR (fun c r => P c r ∧ Suf S r) (fE st S C 1) rq ∧ SeqR P (fE st S C 2) rb := by
  rw [suf_shape hs]
  constructor
  · rintro ⟨A, Q, B, e, hA, hB, hQ, ra, rq, rb, rfl, g1, g2, g3⟩
    have hQ1 : ∀ c ∈ Q, stt st S c = 1 := by
      rcases hQ with rfl | ⟨p, rfl, hp⟩
      · intro c hc; simp at hc
      · intro c hc; rw [List.mem_singleton.mp hc]; exact hp
    have f0 : fE st S C 0 = A := by rw [e, fE_app, fE_app, fE_all hA, fE_none hQ1 (by decide), fE_none hB (by decide)]; simp
    have f1 : fE st S C 1 = Q := by rw [e, fE_app, fE_app, fE_all hQ1, fE_none hA (by decide), fE_none hB (by decide)]; simp
    have f2 : fE st S C 2 = B := by rw [e, fE_app, fE_app, fE_all hB, fE_none hQ1 (by decide), fE_none hA (by decide)]; simp
    refine ⟨by unfold srt; rw [f0, f1, f2]; exact e, by rw [f1]; rcases hQ with rfl | ⟨p, rfl, -⟩ <;> simp, ra, rq, rb, rfl, by rw [f0]; exact g1, by rw [f1]; exact g2, by rw [f2]; exact g3⟩
  · rintro ⟨e, hl, ra, rq, rb, rfl, g1, g2, g3⟩
    refine ⟨_, _, _, e, fun c hc => (fE_mem.mp hc).2, fun c hc => (fE_mem.mp hc).2, ?_, ra, rq, rb, rfl, g1, g2, g3⟩
    match hq : fE st S C 1, hl with
    | [], _ => exact Or.inl rfl
    | [p], _ => exact Or.inr ⟨p, rfl, (fE_mem.mp (by rw [hq]; simp : p ∈ fE st S C 1)).2⟩
    | _ :: _ :: _, h => simp at h
theorem srt_ori {st : Nat → Nat} {S : Nat} {C : List Nat} (h2 : 2 ≤ C.length) (hl : (fE st S C 1).length ≤ 1) (h : srt st S C) : ori st S C = C := by
  unfold ori
  rw [if_pos]
  unfold srt at h
  cases hE : fE st S C 0 with
  | cons c A =>
    left
    rw [hE] at h
    rw [h]
    exact (fE_mem.mp (by rw [hE]; simp : c ∈ fE st S C 0)).2
  | nil =>
    right
    rcases List.eq_nil_or_concat (fE st S C 2) with hF | ⟨B, c, hF⟩
    · rw [hE, hF] at h
      have := congrArg List.length h
      simp at this; omega
    · have h1 : stt st S c = 2 := (fE_mem.mp (by rw [hF]; simp : c ∈ fE st S C 2)).2
      rw [h, hF]
      simp [List.getLastD_eq_getLast?, List.getLast?_append, h1]
theorem srt_ori_rev {st : Nat → Nat} {S : Nat} {C : List Nat} (hE : ∃ c ∈ C, stt st S c ≠ 0) (hF : ∃ c ∈ C, stt st S c ≠ 2) (h : srt st S C.reverse) : ori st S C = C.reverse := by
  unfold ori
  rw [if_neg]
  unfold srt at h
  have key : ∀ {D : List Nat} (c : Nat), D ≠ [] → (D.getLastD 0 ∈ D) := by
    intro D c hD
    rw [List.getLastD_eq_getLast?, List.getLast?_eq_some_getLast hD]
    exact List.getLast_mem hD
  have hC : C ≠ [] := by rintro rfl; obtain ⟨c, hc, -⟩ := hE; simp at hc
  have hCr : C = (fE st S C.reverse 2).reverse ++ (fE st S C.reverse 1).reverse ++ (fE st S C.reverse 0).reverse := by
    have := congrArg List.reverse h
    simpa using this
  rintro (e | e)
  · -- the first is of state 0: then all are
    have h2 : fE st S C.reverse 2 = [] := by
      cases hx : (fE st S C.reverse 2).reverse with
      | nil => simpa using hx
      | cons c D =>
        rw [hCr, hx] at e
        have : stt st S c = 2 := (fE_mem.mp (by rw [← List.mem_reverse, hx]; simp : c ∈ fE st S C.reverse 2)).2
        simp at e; omega
    have h1 : fE st S C.reverse 1 = [] := by
      cases hx : (fE st S C.reverse 1).reverse with
      | nil => simpa using hx
      | cons c D =>
        rw [hCr, h2, hx] at e
        have : stt st S c = 1 := (fE_mem.mp (by rw [← List.mem_reverse, hx]; simp : c ∈ fE st S C.reverse 1)).2
        simp at e; omega
    obtain ⟨c, hc, hne⟩ := hE
    rw [hCr, h1, h2] at hc
    simp at hc
    exact hne (fE_mem.mp hc).2
  · have h0 : fE st S C.reverse 0 = [] := by
      cases hx : fE st S C.reverse 0 with
      | nil => rfl
      | cons c D =>
        rw [hCr, hx] at e
        have : stt st S c = 0 := (fE_mem.mp (by rw [hx]; simp : c ∈ fE st S C.reverse 0)).2
        simp [List.getLastD_eq_getLast?, List.getLast?_append] at e; omega
    have h1 : fE st S C.reverse 1 = [] := by
      cases hx : fE st S C.reverse 1 with
      | nil => rfl
      | cons c D =>
        rw [hCr, h0, hx] at e
        have : stt st S c = 1 := (fE_mem.mp (by rw [hx]; simp : c ∈ fE st S C.reverse 1)).2
        simp [List.getLastD_eq_getLast?, List.getLast?_append] at e; omega
    obtain ⟨c, hc, hne⟩ := hF
    rw [hCr, h1, h0] at hc
    simp at hc
    exact hne (fE_mem.mp hc).2
theorem fE_ori_len {st : Nat → Nat} {S q : Nat} {C : List Nat} : (fE st S (ori st S C) q).length = (fE st S C q).length := (fE_perm ori_perm).length_eq
theorem turn_suf {st : Nat → Nat} {S : Nat} {P : Nat → List Nat → Prop} {C : List Nat} {r : List Nat} (hs : ∀ c ∈ C, Shw st S P c) (h2 : 2 ≤ C.length) (hE : ∃ c ∈ C, stt st S c ≠ 0) (hF : ∃ c ∈ C, stt st S c ≠ 2) : ((SeqR P C r ∨ SeqR P C.reverse r) ∧ Suf S r) ↔ srt st S (ori st S C) ∧ (fE st S C 1).length ≤ 1 ∧ ∃ ra rq rb, r = ra ++ rq ++ rb ∧ SeqR P (fE st S (ori st S C) 0) ra ∧ SeqR (fun c r => P c r ∧ Suf S r) (fE st S (ori st S C) 1) rq ∧ SeqR P (fE st S (ori st S C) 2) rb := by
  have hrl : (fE st S C.reverse 1).length = (fE st S C 1).length := (fE_perm (List.reverse_perm C)).length_eq
  constructor
  · rintro ⟨h | h, hS⟩
    · obtain ⟨g1, g2, g3⟩ := (seq_suf hs).mp ⟨h, hS⟩
      rw [srt_ori h2 g2 g1]; exact ⟨g1, g2, g3⟩
    · obtain ⟨g1, g2, g3⟩ := (seq_suf (fun c hc => hs c (List.mem_reverse.mp hc))).mp ⟨h, hS⟩
      rw [srt_ori_rev hE hF g1]; exact ⟨g1, by rw [← hrl]; exact g2, g3⟩
  · rintro ⟨g1, g2, g3⟩
    have := (seq_suf (P := P) (C := ori st S C) (r := r) (fun c hc => hs c (ori_mem.mp hc))).mpr ⟨g1, by rw [fE_ori_len]; exact g2, g3⟩
    refine ⟨?_, this.2⟩
    unfold ori at this
    split at this
    · exact Or.inl this.1
    · exact Or.inr this.1
def midA (f : Nat → Option (List (List Nat))) : List Nat → Option (List (List Nat))
  | [] => some []
  | p :: _ => f p
def splitA (kd : Nat → Bool) (ch : Nat → List Nat) (st : Nat → Nat) (S : Nat) : Nat → Nat → Option (List (List Nat))
  | 0, _ => none
  | d + 1, id =>
    if 1 < (fE st S (ch id) 1).length then none
    else if kd id = true then
      (if ori st S (ch id) = fE st S (ori st S (ch id)) 0 ++ fE st S (ori st S (ch id)) 1 ++ fE st S (ori st S (ch id)) 2 then
        (midA (splitA kd ch st S d) (fE st S (ch id) 1)).map (fun m => (fE st S (ori st S (ch id)) 0).map (fun c => [c]) ++ m ++ (fE st S (ori st S (ch id)) 2).map (fun c => [c]))
       else none)
    else (midA (splitA kd ch st S d) (fE st S (ch id) 1)).map (fun m => bun (fE st S (ch id) 0) ++ m ++ bun (fE st S (ch id) 2))
theorem stt1_ne {kd : Nat → Bool} {ch : Nat → List Nat} {st : Nat → Nat} {S id : Nat} (hid : 8 ≤ id) (hw : Wf kd ch st id) (h1 : stt st S id = 1) : (∃ c ∈ ch id, stt st S c ≠ 0) ∧ ∃ c ∈ ch id, stt st S c ≠ 2 := by
  obtain ⟨-, -, w3, -, w5⟩ := (Wf_node hid).mp hw
  have hs : ∀ c ∈ ch id, Shw st S (Fr kd ch) c := fun c hc => shw_of (Wf_ne0 c (w5 c hc)) (fun r hr => (Fr_set c (w5 c hc) r hr).2)
  obtain ⟨r, hr⟩ := Seq_ex (ch id) (fun c hc => Fr_ex c (w5 c hc))
  have hF : Fr kd ch id r := (Fr_node hid).mpr ⟨_, OrdR_self _ _, hr⟩
  have hm := (shw_of (S := S) (P := Fr kd ch) (Wf_ne0 id hw) (fun r hr => (Fr_set id hw r hr).2) r hF).2.2.2 h1
  obtain ⟨a1, a2⟩ := all_state hs hr
  constructor
  · by_cases c : ∀ c ∈ ch id, stt st S c = 0
    · have := a2.mpr c
      obtain ⟨⟨x, hx, h⟩, -⟩ := hm
      rw [this x hx] at h; cases h
    · simpa using c
  · by_cases c : ∀ c ∈ ch id, stt st S c = 2
    · have := a1.mpr c
      obtain ⟨-, x, hx, h⟩ := hm
      rw [this x hx] at h; cases h
    · simpa using c
theorem Wf_shw {kd : Nat → Bool} {ch : Nat → List Nat} {st : Nat → Nat} {S c : Nat} (hw : Wf kd ch st c) : Shw st S (Fr kd ch) c := shw_of (Wf_ne0 c hw) (fun r hr => (Fr_set c hw r hr).2)
theorem leaf_stt {st : Nat → Nat} {S id : Nat} (hs : st id = 2 ^ id) : stt st S id ≠ 1 := by
  unfold stt
  rw [hs]
  by_cases h : S.testBit id = true
  · have : 2 ^ id &&& S = 2 ^ id := by
      apply Nat.eq_of_testBit_eq
      intro i
      rw [Nat.testBit_and, Nat.testBit_two_pow]
      by_cases e : id = i
      · subst e; simp [h]
      · simp [e]
    rw [this]; split <;> simp
  · have : 2 ^ id &&& S = 0 := by
      apply Nat.eq_of_testBit_eq
      intro i
      rw [Nat.testBit_and, Nat.testBit_two_pow]
      by_cases e : id = i
      · subst e; simp [h]
      · simp [e]
    rw [if_pos this]; decide
/-- taking asunder gives the rows with S at the end, or there is none -/
theorem splitA_ok {kd : Nat → Bool} {ch : Nat → List Nat} {st : Nat → Nat} {S : Nat} : ∀ (d id : Nat), WfD kd ch st d id → stt st S id = 1 → (∀ items, splitA kd ch st S d id = some items → ∀ r, SeqR (FreeR (Fr kd ch)) items r ↔ (Fr kd ch id r ∧ Suf S r)) ∧ (splitA kd ch st S d id = none → ∀ r, Fr kd ch id r → ¬ Suf S r) := by
  intro d
  induction d with
  | zero => intro id h; exact absurd h (by simp [WfD])
  | succ d ih =>
    intro id hwd hst
    have hid : 8 ≤ id := by
      by_cases c : id < 8
      · unfold WfD at hwd; rw [if_pos c] at hwd
        exact absurd hst (leaf_stt hwd)
      · omega
    have hw : Wf kd ch st id := ⟨_, hwd⟩
    obtain ⟨w1, w2, w3, w4, w5⟩ := (Wf_node hid).mp hw
    have hch : ∀ c ∈ ch id, WfD kd ch st d c := by
      unfold WfD at hwd; rw [if_neg (by omega)] at hwd; exact hwd.2.2.2.2
    have hs : ∀ c ∈ ch id, Shw st S (Fr kd ch) c := fun c hc => Wf_shw (w5 c hc)
    obtain ⟨hne0, hne2⟩ := stt1_ne hid hw hst
    -- what the inner part gives
    have mid : ∀ (Q : List Nat), (∀ c, c ∈ Q → c ∈ ch id ∧ stt st S c = 1) → Q.length ≤ 1 → (∀ m, midA (splitA kd ch st S d) Q = some m → ∀ r, SeqR (FreeR (Fr kd ch)) m r ↔ SeqR (fun c r => Fr kd ch c r ∧ Suf S r) Q r) ∧ (midA (splitA kd ch st S d) Q = none → ∀ r, ¬ SeqR (fun c r => Fr kd ch c r ∧ Suf S r) Q r) := by
      intro Q hQ hl
      match Q, hQ, hl with
      | [], _, _ =>
        refine ⟨fun m hm r => ?_, fun h => (by cases h)⟩
        cases hm; exact Iff.rfl
      | [p], hQ, _ =>
        obtain ⟨p1, p2⟩ := hQ p (by simp)
        obtain ⟨i1, i2⟩ := ih p (hch p p1) p2
        refine ⟨fun m hm r => ?_, fun h r hr => ?_⟩
        · rw [SeqR_one]; exact i1 m hm r
        · rw [SeqR_one] at hr; exact i2 h r hr.1 hr.2
      | _ :: _ :: _, _, h => simp at h
    have hQ1 : ∀ c, c ∈ fE st S (ch id) 1 → c ∈ ch id ∧ stt st S c = 1 := fun c hc => fE_mem.mp hc
    unfold splitA
    by_cases hl : 1 < (fE st S (ch id) 1).length
    · rw [if_pos hl]
      refine ⟨fun items h => (by cases h), fun _ r hr hS => ?_⟩
      rw [Fr_node hid] at hr
      obtain ⟨L, h1, h2⟩ := hr
      have h3 := (free_suf (P := Fr kd ch) hs).mp ⟨⟨L, OrdR_perm h1, h2⟩, hS⟩
      omega
    · rw [if_neg hl]
      have hl : (fE st S (ch id) 1).length ≤ 1 := by omega
      obtain ⟨m1, m2⟩ := mid _ hQ1 hl
      by_cases hk : kd id = true
      · rw [if_pos hk]
        have hFr : ∀ r, Fr kd ch id r ↔ (SeqR (Fr kd ch) (ch id) r ∨ SeqR (Fr kd ch) (ch id).reverse r) := by
          intro r
          rw [Fr_node hid]
          constructor
          · rintro ⟨L, h1, h2⟩
            unfold OrdR at h1; rw [if_pos hk] at h1
            rcases h1 with rfl | rfl
            · exact Or.inl h2
            · exact Or.inr h2
          · rintro (h | h)
            · exact ⟨_, OrdR_self _ _, h⟩
            · exact ⟨_, OrdR_rev (OrdR_self _ _), h⟩
        have hT := fun r => turn_suf (r := r) hs w1 hne0 hne2
        have hf1 : fE st S (ori st S (ch id)) 1 = fE st S (ch id) 1 := by
          have hp : (fE st S (ori st S (ch id)) 1).Perm (fE st S (ch id) 1) := fE_perm ori_perm
          match hq : fE st S (ch id) 1, hl with
          | [], _ => rw [hq] at hp; exact hp.eq_nil
          | [p], _ => rw [hq] at hp; exact hp.eq_singleton
          | _ :: _ :: _, h => simp at h
        by_cases hsrt : srt st S (ori st S (ch id))
        · have hsrt' : ori st S (ch id) = fE st S (ori st S (ch id)) 0 ++ fE st S (ori st S (ch id)) 1 ++ fE st S (ori st S (ch id)) 2 := hsrt
          rw [if_pos hsrt']
          refine ⟨fun items hit r => ?_, fun hno r hr hS => ?_⟩
          · obtain ⟨m, hm, rfl⟩ := Option.map_eq_some_iff.mp hit
            rw [hFr, hT r, SeqR_app]
            constructor
            · rintro ⟨a, b, rfl, h1, h2⟩
              rw [SeqR_app] at h1
              obtain ⟨a1, a2, rfl, h3, h4⟩ := h1
              refine ⟨hsrt, hl, a1, a2, b, rfl, singles_seq.mp h3, ?_, singles_seq.mp h2⟩
              rw [hf1]; exact (m1 m hm _).mp h4
            · rintro ⟨-, -, ra, rq, rb, rfl, g1, g2, g3⟩
              rw [hf1] at g2
              refine ⟨ra ++ rq, rb, rfl, ?_, singles_seq.mpr g3⟩
              rw [SeqR_app]
              exact ⟨ra, rq, rfl, singles_seq.mpr g1, (m1 m hm _).mpr g2⟩
          · have hm := Option.map_eq_none_iff.mp hno
            obtain ⟨-, -, ra, rq, rb, rfl, g1, g2, g3⟩ := (hT r).mp ⟨(hFr r).mp hr, hS⟩
            rw [hf1] at g2
            exact m2 hm _ g2
        · have hsrt' : ¬ ori st S (ch id) = fE st S (ori st S (ch id)) 0 ++ fE st S (ori st S (ch id)) 1 ++ fE st S (ori st S (ch id)) 2 := hsrt
          rw [if_neg hsrt']
          refine ⟨fun items h => (by cases h), fun _ r hr hS => ?_⟩
          exact hsrt ((hT r).mp ⟨(hFr r).mp hr, hS⟩).1
      · rw [if_neg hk]
        have hFr : ∀ r, Fr kd ch id r ↔ FreeR (Fr kd ch) (ch id) r := by
          intro r
          rw [Fr_node hid]
          constructor
          · rintro ⟨L, h1, h2⟩
            unfold OrdR at h1; rw [if_neg hk] at h1
            exact ⟨L, h1, h2⟩
          · rintro ⟨L, h1, h2⟩
            exact ⟨L, by unfold OrdR; rw [if_neg hk]; exact h1, h2⟩
        refine ⟨fun items hit r => ?_, fun hno r hr hS => ?_⟩
        · obtain ⟨m, hm, rfl⟩ := Option.map_eq_some_iff.mp hit
          rw [hFr, free_suf hs, SeqR_app]
          constructor
          · rintro ⟨a, b, rfl, h1, h2⟩
            rw [SeqR_app] at h1
            obtain ⟨a1, a2, rfl, h3, h4⟩ := h1
            exact ⟨hl, a1, a2, b, rfl, bun_seq.mp h3, (m1 m hm _).mp h4, bun_seq.mp h2⟩
          · rintro ⟨-, ra, rq, rb, rfl, g1, g2, g3⟩
            refine ⟨ra ++ rq, rb, rfl, ?_, bun_seq.mpr g3⟩
            rw [SeqR_app]
            exact ⟨ra, rq, rfl, bun_seq.mpr g1, (m1 m hm _).mpr g2⟩
        · have hm := Option.map_eq_none_iff.mp hno
          obtain ⟨-, ra, rq, rb, rfl, g1, g2, g3⟩ := (free_suf hs).mp ⟨(hFr r).mp hr, hS⟩
          exact m2 hm _ g2
