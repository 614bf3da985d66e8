theorem cs_perm {st : Nat → Nat} {S : Nat} {P : Nat → List Nat → Prop} {M C : List Nat} {r : List Nat} (hM : M.Perm C) (h : CShape st S P M r) : ∃ A Q F Q2 B ra rq rf rp rb, (A ++ B).Perm (fE st S C 0) ∧ (Q ++ Q2).Perm (fE st S C 1) ∧ Q.length ≤ 1 ∧ Q2.length ≤ 1 ∧ F.Perm (fE st S C 2) ∧ r = ra ++ (rq ++ (rf ++ (rp ++ rb))) ∧ SeqR P A ra ∧ SeqR (fun c r => P c r ∧ Suf S r) Q rq ∧ SeqR P F rf ∧ SeqR (fun c r => P c r ∧ Pre S r) Q2 rp ∧ SeqR P B rb := by
  obtain ⟨A, Q, F, Q2, B, e, hA, hQ, hF, hQ2, hB, ra, rq, rf, rp, rb, er, g1, g2, g3, g4, g5⟩ := h
  have q1 : ∀ c ∈ Q, stt st S c = 1 := by
    rcases hQ with rfl | ⟨p, rfl, hp⟩
    · intro c hc; simp at hc
    · intro c hc; rw [List.mem_singleton.mp hc]; exact hp
  have q2 : ∀ c ∈ Q2, stt st S c = 1 := by
    rcases hQ2 with rfl | ⟨p, rfl, hp⟩
    · intro c hc; simp at hc
    · intro c hc; rw [List.mem_singleton.mp hc]; exact hp
  have l1 : Q.length ≤ 1 := by rcases hQ with rfl | ⟨p, rfl, -⟩ <;> simp
  have l2 : Q2.length ≤ 1 := by rcases hQ2 with rfl | ⟨p, rfl, -⟩ <;> simp
  have f0 : fE st S M 0 = A ++ B := by
    rw [e, fE_app, fE_app, fE_app, fE_app, fE_all hA, fE_all hB, fE_none q1 (by decide), fE_none q2 (by decide), fE_none hF (by decide)]; simp
  have f1 : fE st S M 1 = Q ++ Q2 := by
    rw [e, fE_app, fE_app, fE_app, fE_app, fE_all q1, fE_all q2, fE_none hA (by decide), fE_none hB (by decide), fE_none hF (by decide)]; simp
  have f2 : fE st S M 2 = F := by
    rw [e, fE_app, fE_app, fE_app, fE_app, fE_all hF, fE_none q1 (by decide), fE_none q2 (by decide), fE_none hA (by decide), fE_none hB (by decide)]; simp
  exact ⟨A, Q, F, Q2, B, ra, rq, rf, rp, rb, by rw [← f0]; exact fE_perm hM, by rw [← f1]; exact fE_perm hM, l1, l2, by rw [← f2]; exact fE_perm hM, er, g1, g2, g3, g4, g5⟩
theorem midA_ok {P : Nat → List Nat → Prop} {S : Nat} {spl : Nat → Option (List (List Nat))} {Q : List Nat} (hsp : ∀ c ∈ Q, SplOk P S spl c) : (∀ x, midA spl Q = some x → ∀ r, SeqR (FreeR P) x r ↔ SeqR (fun c r => P c r ∧ Suf S r) (Q.take 1) r) ∧ (midA spl Q = none → ∀ r, ¬ SeqR (fun c r => P c r ∧ Suf S r) (Q.take 1) r) := by
  cases Q with
  | nil =>
    refine ⟨fun x hx r => ?_, fun h => (by cases h)⟩
    cases hx; exact Iff.rfl
  | cons p Q =>
    have := hsp p (by simp)
    refine ⟨fun x hx r => ?_, fun h r hr => ?_⟩
    · simp only [List.take_succ_cons, List.take_zero]
      rw [SeqR_one]; exact this.1 x hx r
    · simp only [List.take_succ_cons, List.take_zero] at hr
      rw [SeqR_one] at hr; exact this.2 h r hr.1 hr.2
theorem midA_pre {P : Nat → List Nat → Prop} (hP : ∀ c r, P c r → P c r.reverse) {S : Nat} {spl : Nat → Option (List (List Nat))} {Q : List Nat} (hsp : ∀ c ∈ Q, SplOk P S spl c) : (∀ x, midA spl Q = some x → ∀ r, SeqR (FreeR P) x.reverse r ↔ SeqR (fun c r => P c r ∧ Pre S r) (Q.take 1) r) ∧ (midA spl Q = none → ∀ r, ¬ SeqR (fun c r => P c r ∧ Pre S r) (Q.take 1) r) := by
  cases Q with
  | nil =>
    refine ⟨fun x hx r => ?_, fun h => (by cases h)⟩
    cases hx; exact Iff.rfl
  | cons p Q =>
    have := splOk_pre hP (hsp p (by simp))
    refine ⟨fun x hx r => ?_, fun h r hr => ?_⟩
    · simp only [List.take_succ_cons, List.take_zero]
      rw [SeqR_one]; exact this.1 x hx r
    · simp only [List.take_succ_cons, List.take_zero] at hr
      rw [SeqR_one] at hr; exact this.2 h r hr.1 hr.2
theorem two_alt {Q Q2 L : List Nat} (h : (Q ++ Q2).Perm L) (h1 : Q.length ≤ 1) (h2 : Q2.length ≤ 1) : (Q = L.take 1 ∧ Q2 = L.tail.take 1) ∨ (Q2 = L.take 1 ∧ Q = L.tail.take 1) := by
  have hl := h.length_eq
  match L, h with
  | [], h =>
    have := h.eq_nil
    simp at this
    left; simp [this.1, this.2]
  | [p], h =>
    have := h.eq_singleton
    match Q, Q2, this with
    | [], [a], e => simp at e; subst e; right; simp
    | [a], [], e => simp at e; subst e; left; simp
    | [], [], e => simp at e
    | [], _ :: _ :: _, e => simp at e
    | [_], _ :: _, e => simp at e
    | _ :: _ :: _, _, e => simp at e
  | [p, q], h =>
    rcases perm_two h h1 h2 with ⟨rfl, rfl⟩ | ⟨rfl, rfl⟩
    · left; simp
    · right; simp
  | _ :: _ :: _ :: _, h => simp at hl; omega
theorem seqPred_rev {P : Nat → List Nat → Prop} (hP : ∀ c r, P c r → P c r.reverse) {S : Nat} {Q : List Nat} {r : List Nat} (hl : Q.length ≤ 1) : SeqR (fun c r => P c r ∧ Pre S r) Q r → SeqR (fun c r => P c r ∧ Suf S r) Q r.reverse := by
  match Q, hl with
  | [], _ => intro h; simp only [SeqR] at h; subst h; rfl
  | [p], _ => rw [SeqR_one, SeqR_one]; exact fun h => ⟨hP _ _ h.1, suf_rev.mpr h.2⟩
  | _ :: _ :: _, h => simp at h
theorem seqPred_rev2 {P : Nat → List Nat → Prop} (hP : ∀ c r, P c r → P c r.reverse) {S : Nat} {Q : List Nat} {r : List Nat} (hl : Q.length ≤ 1) : SeqR (fun c r => P c r ∧ Suf S r) Q r → SeqR (fun c r => P c r ∧ Pre S r) Q r.reverse := by
  match Q, hl with
  | [], _ => intro h; simp only [SeqR] at h; subst h; rfl
  | [p], _ => rw [SeqR_one, SeqR_one]; exact fun h => ⟨hP _ _ h.1, pre_rev.mpr h.2⟩
  | _ :: _ :: _, h => simp at h
theorem freeA_ok {P : Nat → List Nat → Prop} (hP : ∀ c r, P c r → P c r.reverse) {st : Nat → Nat} {S : Nat} {spl : Nat → Option (List (List Nat))} {C : List Nat} (hs : ∀ c ∈ C, Shw st S P c) (hsp : ∀ c ∈ C, stt st S c = 1 → SplOk P S spl c) (hn : 2 ≤ nE st S C) : (∀ x, freeA spl st S C = some x → ∀ r, NFree P (fE st S C 0) x r ↔ (FreeR P C r ∧ Cons S r)) ∧ (freeA spl st S C = none → ∀ r, FreeR P C r → ¬ Cons S r) := by
  have hspP : ∀ c ∈ fE st S C 1, SplOk P S spl c := fun c hc => hsp c (fE_mem.mp hc).1 (fE_mem.mp hc).2
  have hspT : ∀ c ∈ (fE st S C 1).tail, SplOk P S spl c := fun c hc => hspP c (List.mem_of_mem_tail hc)
  obtain ⟨a1, a2⟩ := midA_ok hspP
  obtain ⟨b1, b2⟩ := midA_pre hP hspT
  obtain ⟨b3, b4⟩ := midA_ok hspT
  have shp : ∀ r, FreeR P C r → Cons S r → ∃ A Q F Q2 B ra rq rf rp rb, (A ++ B).Perm (fE st S C 0) ∧ (Q ++ Q2).Perm (fE st S C 1) ∧ Q.length ≤ 1 ∧ Q2.length ≤ 1 ∧ F.Perm (fE st S C 2) ∧ r = ra ++ (rq ++ (rf ++ (rp ++ rb))) ∧ SeqR P A ra ∧ SeqR (fun c r => P c r ∧ Suf S r) Q rq ∧ SeqR P F rf ∧ SeqR (fun c r => P c r ∧ Pre S r) Q2 rp ∧ SeqR P B rb := by
    rintro r ⟨M, hM, hr⟩ hC
    exact cs_perm hM (cons_shape1 (fun c hc => hs c (hM.mem_iff.mp hc)) (by rw [nE_perm hM]; exact hn) hr hC)
  unfold freeA
  by_cases hl : 2 < (fE st S C 1).length
  · rw [if_pos hl]
    refine ⟨fun x hx => (by cases hx), fun _ r hr hC => ?_⟩
    obtain ⟨A, Q, F, Q2, B, ra, rq, rf, rp, rb, p0, p1, l1, l2, -⟩ := shp r hr hC
    have := p1.length_eq
    simp at this; omega
  · rw [if_neg hl]
    refine ⟨fun z hz r => ?_, fun hno r hr hC => ?_⟩
    · obtain ⟨x, hx, hz⟩ := Option.bind_eq_some_iff.mp hz
      obtain ⟨y, hy, rfl⟩ := Option.map_eq_some_iff.mp hz
      have line : ∀ r, SeqR (FreeR P) (x ++ bun (fE st S C 2) ++ y.reverse) r ↔ ∃ r1 rf r2, r = r1 ++ (rf ++ r2) ∧ SeqR (fun c r => P c r ∧ Suf S r) ((fE st S C 1).take 1) r1 ∧ FreeR P (fE st S C 2) rf ∧ SeqR (fun c r => P c r ∧ Pre S r) ((fE st S C 1).tail.take 1) r2 := by
        intro r
        rw [List.append_assoc, SeqR_app]
        constructor
        · rintro ⟨r1, t, rfl, h1, h2⟩
          rw [SeqR_app] at h2
          obtain ⟨rf, r2, rfl, h3, h4⟩ := h2
          exact ⟨r1, rf, r2, rfl, (a1 x hx r1).mp h1, bun_seq.mp h3, (b1 y hy r2).mp h4⟩
        · rintro ⟨r1, rf, r2, rfl, h1, h3, h4⟩
          refine ⟨r1, rf ++ r2, rfl, (a1 x hx r1).mpr h1, ?_⟩
          rw [SeqR_app]
          exact ⟨rf, r2, rfl, bun_seq.mpr h3, (b1 y hy r2).mpr h4⟩
      constructor
      · intro hN
        have main : ∀ r, (∃ A B ra rq rb, (A ++ B).Perm (fE st S C 0) ∧ r = ra ++ (rq ++ rb) ∧ SeqR P A ra ∧ SeqR (FreeR P) (x ++ bun (fE st S C 2) ++ y.reverse) rq ∧ SeqR P B rb) → FreeR P C r ∧ Cons S r := by
          rintro r ⟨A, B, ra, rq, rb, p0, rfl, g1, g2, g3⟩
          obtain ⟨r1, rf, r2, rfl, h1, ⟨F, pF, h3⟩, h4⟩ := (line rq).mp g2
          have htt : (fE st S C 1).take 1 ++ (fE st S C 1).tail.take 1 = fE st S C 1 := by
            match hq : fE st S C 1, hl with
            | [], _ => rfl
            | [p], _ => rfl
            | [p, q], _ => rfl
            | _ :: _ :: _ :: _, h => simp at h
          have hM : (A ++ ((fE st S C 1).take 1 ++ (F ++ ((fE st S C 1).tail.take 1 ++ B)))).Perm C := by
            refine List.Perm.trans ?_ (fE_part st S C)
            rw [List.perm_iff_count]
            intro z
            have c0 := List.perm_iff_count.mp p0 z
            have cF := List.perm_iff_count.mp pF z
            have ct := congrArg (List.count z) htt
            simp only [List.count_append] at c0 ct ⊢
            omega
          have hsM : ∀ c ∈ A ++ ((fE st S C 1).take 1 ++ (F ++ ((fE st S C 1).tail.take 1 ++ B))), Shw st S P c := fun c hc => hs c (hM.mem_iff.mp hc)
          have tk : ∀ (L : List Nat), (∀ c ∈ L, stt st S c = 1) → (L.take 1 = [] ∨ ∃ p, L.take 1 = [p] ∧ stt st S p = 1) := by
            intro L hL
            cases L with
            | nil => exact Or.inl rfl
            | cons p L => exact Or.inr ⟨p, rfl, hL p (by simp)⟩
          have := cons_shape2 hsM (r := ra ++ (r1 ++ (rf ++ (r2 ++ rb)))) ⟨A, _, F, _, B, rfl, fun c hc => (fE_mem.mp (p0.mem_iff.mp (by simp [hc]))).2, tk _ (fun c hc => (fE_mem.mp hc).2), fun c hc => (fE_mem.mp (pF.mem_iff.mp hc)).2, tk _ (fun c hc => (fE_mem.mp (List.mem_of_mem_tail hc)).2), fun c hc => (fE_mem.mp (p0.mem_iff.mp (by simp [hc]))).2, ra, r1, rf, r2, rb, rfl, g1, h1, h3, h4, g3⟩
          have er : ra ++ (r1 ++ (rf ++ r2) ++ rb) = ra ++ (r1 ++ (rf ++ (r2 ++ rb))) := by simp
          rw [er]
          exact ⟨⟨_, hM, this.1⟩, this.2⟩
        obtain ⟨A, B, ra, rq, rb, p0, er, g1, g2 | g2, g3⟩ := hN
        · exact main r ⟨A, B, ra, rq, rb, p0, er, g1, g2, g3⟩
        · have := main r.reverse ⟨B.reverse, A.reverse, rb.reverse, rq.reverse, ra.reverse, by rw [← List.reverse_append]; exact (List.reverse_perm _).trans p0, by rw [er]; simp, SeqR_rev (fun c _ r => hP c r) g3, g2, SeqR_rev (fun c _ r => hP c r) g1⟩
          have h1 := FreeR_rev (fun c _ r => hP c r) this.1
          rw [List.reverse_reverse] at h1
          exact ⟨h1, cons_rev.mp this.2⟩
      · rintro ⟨hr, hC⟩
        obtain ⟨A, Q, F, Q2, B, ra, rq, rf, rp, rb, p0, p1, l1, l2, pF, rfl, g1, g2, g3, g4, g5⟩ := shp r hr hC
        refine ⟨A, B, ra, rq ++ (rf ++ rp), rb, p0, by simp, g1, ?_, g5⟩
        rcases two_alt p1 l1 l2 with ⟨e1, e2⟩ | ⟨e1, e2⟩
        · left
          rw [line]
          exact ⟨rq, rf, rp, rfl, by rw [← e1]; exact g2, ⟨F, pF, g3⟩, by rw [← e2]; exact g4⟩
        · right
          rw [line]
          refine ⟨rp.reverse, rf.reverse, rq.reverse, by simp, ?_, ⟨F.reverse, (List.reverse_perm _).trans pF, SeqR_rev (fun c _ r => hP c r) g3⟩, ?_⟩
          · rw [← e1]; exact seqPred_rev hP l2 g4
          · rw [← e2]; exact seqPred_rev2 hP l1 g2
    · obtain ⟨A, Q, F, Q2, B, ra, rq, rf, rp, rb, p0, p1, l1, l2, pF, rfl, g1, g2, g3, g4, g5⟩ := shp r hr hC
      rcases two_alt p1 l1 l2 with ⟨e1, e2⟩ | ⟨e1, e2⟩
      · cases hx : midA spl (fE st S C 1) with
        | none => exact a2 hx rq (by rw [← e1]; exact g2)
        | some x =>
          rw [hx] at hno
          simp only [Option.bind_some] at hno
          exact b2 (Option.map_eq_none_iff.mp hno) rp (by rw [← e2]; exact g4)
      · cases hx : midA spl (fE st S C 1) with
        | none => exact a2 hx rp.reverse (by rw [← e1]; exact seqPred_rev hP l2 g4)
        | some x =>
          rw [hx] at hno
          simp only [Option.bind_some] at hno
          exact b4 (by
            have := Option.map_eq_none_iff.mp hno
            exact this) rq (by rw [← e2]; exact g2)
