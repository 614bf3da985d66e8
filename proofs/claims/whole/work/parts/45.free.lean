-- ===== a free node reduced by S =====
theorem pre_shape {st : Nat → Nat} {S : Nat} {P : Nat → List Nat → Prop} : ∀ {L : List Nat} {r : List Nat}, (∀ c ∈ L, Shw st S P c) → ((SeqR P L r ∧ Pre S r) ↔ ∃ F Q B, L = F ++ Q ++ B ∧ (∀ c ∈ F, stt st S c = 2) ∧ (∀ c ∈ B, stt st S c = 0) ∧ (Q = [] ∨ ∃ p, Q = [p] ∧ stt st S p = 1) ∧ ∃ rf rq rb, r = rf ++ rq ++ rb ∧ SeqR P F rf ∧ SeqR (fun c r => P c r ∧ Pre S r) Q rq ∧ SeqR P B rb) := by
  intro L
  induction L with
  | nil =>
    intro r hs
    constructor
    · rintro ⟨h, -⟩
      simp only [SeqR] at h; subst h
      exact ⟨[], [], [], rfl, fun c hc => by simp at hc, fun c hc => by simp at hc, Or.inl rfl, [], [], [], rfl, rfl, rfl, rfl⟩
    · rintro ⟨A, Q, B, e, -, -, -, ra, rq, rb, rfl, h1, h2, h3⟩
      simp at e
      obtain ⟨rfl, rfl, rfl⟩ := e
      simp only [SeqR] at h1 h2 h3
      subst h1; subst h2; subst h3
      exact ⟨rfl, [], [], rfl, allS_nil, noS_nil⟩
  | cons c L ih =>
    intro r hs
    have hsL : ∀ d ∈ L, Shw st S P d := fun d hd => hs d (by simp [hd])
    constructor
    · rintro ⟨⟨a, b, rfl, h1, h2⟩, hS⟩
      obtain ⟨s1, s2, s3, s4⟩ := hs c (by simp) a h1
      rcases stt_3 st S c with e | e | e
      · obtain ⟨y, hy⟩ : ∃ y, y ∈ a := by
          cases a with
          | nil => exact absurd rfl s1
          | cons y a => exact ⟨y, by simp⟩
        rw [pre_P ⟨y, hy, s2 e y hy⟩] at hS
        have := ((all_state hsL h2).2).mp hS.2
        exact ⟨[], [], c :: L, rfl, fun d hd => by simp at hd, fun d hd => by rcases List.mem_cons.mp hd with rfl | hd; exact e; exact this d hd, Or.inl rfl, [], [], a ++ b, by simp, rfl, rfl, ⟨a, b, rfl, h1, h2⟩⟩
      · rw [pre_P (s4 e).2] at hS
        have := ((all_state hsL h2).2).mp hS.2
        exact ⟨[], [c], L, rfl, fun d hd => by simp at hd, this, Or.inr ⟨c, rfl, e⟩, [], a, b, by simp, rfl, SeqR_one.mpr ⟨h1, hS.1⟩, h2⟩
      · rw [pre_F (s3 e)] at hS
        obtain ⟨F, Q, B, rfl, hF, hB, hQ, rf, rq, rb, rfl, g1, g2, g3⟩ := (ih hsL).mp ⟨h2, hS⟩
        exact ⟨c :: F, Q, B, rfl, fun d hd => by rcases List.mem_cons.mp hd with rfl | hd; exact e; exact hF d hd, hB, hQ, a ++ rf, rq, rb, by simp, ⟨a, rf, rfl, h1, g1⟩, g2, g3⟩
    · rintro ⟨F, Q, B, e, hF, hB, hQ, rf, rq, rb, rfl, g1, g2, g3⟩
      have hFs : ∀ d ∈ F, Shw st S P d := fun d hd => hs d (by rw [e]; simp [hd])
      have hBs : ∀ d ∈ B, Shw st S P d := fun d hd => hs d (by rw [e]; simp [hd])
      rw [e]
      refine ⟨?_, ?_⟩
      · rw [List.append_assoc, List.append_assoc, SeqR_app]
        refine ⟨rf, rq ++ rb, rfl, g1, ?_⟩
        rw [SeqR_app]
        exact ⟨rq, rb, rfl, SeqR_mono (fun _ _ _ h => h.1) g2, g3⟩
      · rw [List.append_assoc, pre_F (((all_state hFs g1).1).mpr hF)]
        have hb := ((all_state hBs g3).2).mpr hB
        rcases hQ with rfl | ⟨p, rfl, hp⟩
        · simp only [SeqR] at g2; subst g2
          exact noS_pre hb
        · rw [SeqR_one] at g2
          obtain ⟨-, -, -, s4⟩ := hs p (by rw [e]; simp) rq g2.1
          exact (pre_P (s4 hp).2).mpr ⟨g2.2, hb⟩
/-- a list of parts with S side by side: empty ones, at most one that ends in S, whole ones, at most one that begins with S, empty ones -/
def CShape (st : Nat → Nat) (S : Nat) (P : Nat → List Nat → Prop) (L : List Nat) (r : List Nat) : Prop :=
  ∃ A Q F Q2 B, L = A ++ (Q ++ (F ++ (Q2 ++ B))) ∧ (∀ c ∈ A, stt st S c = 0) ∧ (Q = [] ∨ ∃ p, Q = [p] ∧ stt st S p = 1) ∧ (∀ c ∈ F, stt st S c = 2) ∧ (Q2 = [] ∨ ∃ p, Q2 = [p] ∧ stt st S p = 1) ∧ (∀ c ∈ B, stt st S c = 0) ∧
    ∃ ra rq rf rp rb, r = ra ++ (rq ++ (rf ++ (rp ++ rb))) ∧ SeqR P A ra ∧ SeqR (fun c r => P c r ∧ Suf S r) Q rq ∧ SeqR P F rf ∧ SeqR (fun c r => P c r ∧ Pre S r) Q2 rp ∧ SeqR P B rb
theorem cons_shape1 {st : Nat → Nat} {S : Nat} {P : Nat → List Nat → Prop} : ∀ {L : List Nat} {r : List Nat}, (∀ c ∈ L, Shw st S P c) → 2 ≤ nE st S L → SeqR P L r → Cons S r → CShape st S P L r := by
  intro L
  induction L with
  | nil => intro r hs hn; simp [nE] at hn
  | cons c L ih =>
    rintro r hs hn ⟨a, b, rfl, h1, h2⟩ hC
    have hsL : ∀ d ∈ L, Shw st S P d := fun d hd => hs d (by simp [hd])
    obtain ⟨s1, s2, s3, s4⟩ := hs c (by simp) a h1
    rw [nE_cons] at hn
    rcases stt_3 st S c with e | e | e
    · rw [cons_E (s2 e)] at hC
      rw [if_pos e] at hn
      obtain ⟨A, Q, F, Q2, B, rfl, hA, hQ, hF, hQ2, hB, ra, rq, rf, rp, rb, rfl, g1, g2, g3, g4, g5⟩ := ih hsL (by omega) h2 hC
      exact ⟨c :: A, Q, F, Q2, B, rfl, fun d hd => by rcases List.mem_cons.mp hd with rfl | hd; exact e; exact hA d hd, hQ, hF, hQ2, hB, a ++ ra, rq, rf, rp, rb, by simp, ⟨a, ra, rfl, h1, g1⟩, g2, g3, g4, g5⟩
    · rw [cons_P (s4 e).1] at hC
      rw [if_neg (by omega)] at hn
      rcases hC with ⟨hSf, hPr⟩ | ⟨-, hno⟩
      · obtain ⟨F, Q2, B, rfl, hF, hB, hQ2, rf, rp, rb, rfl, g1, g2, g3⟩ := (pre_shape hsL).mp ⟨h2, hPr⟩
        exact ⟨[], [c], F, Q2, B, by simp, fun d hd => by simp at hd, Or.inr ⟨c, rfl, e⟩, hF, hQ2, hB, [], a, rf, rp, rb, by simp, rfl, SeqR_one.mpr ⟨h1, hSf⟩, g1, g2, g3⟩
      · exfalso
        have h3 := ((all_state hsL h2).2).mp hno
        obtain ⟨d, hd, hd2⟩ := nE_pos (st := st) (S := S) (C := L) (by omega)
        exact hd2 (h3 d hd)
    · rw [cons_F (s3 e) s1] at hC
      obtain ⟨F, Q2, B, rfl, hF, hB, hQ2, rf, rp, rb, rfl, g1, g2, g3⟩ := (pre_shape hsL).mp ⟨h2, hC⟩
      exact ⟨[], [], c :: F, Q2, B, by simp, fun d hd => by simp at hd, Or.inl rfl, fun d hd => by rcases List.mem_cons.mp hd with rfl | hd; exact e; exact hF d hd, hQ2, hB, [], [], a ++ rf, rp, rb, by simp, rfl, rfl, ⟨a, rf, rfl, h1, g1⟩, g2, g3⟩
theorem cons_shape2 {st : Nat → Nat} {S : Nat} {P : Nat → List Nat → Prop} {L : List Nat} {r : List Nat} (hs : ∀ c ∈ L, Shw st S P c) (h : CShape st S P L r) : SeqR P L r ∧ Cons S r := by
  obtain ⟨A, Q, F, Q2, B, rfl, hA, hQ, hF, hQ2, hB, ra, rq, rf, rp, rb, rfl, g1, g2, g3, g4, g5⟩ := h
  have sub : ∀ {D : List Nat}, (∀ d ∈ D, d ∈ A ++ (Q ++ (F ++ (Q2 ++ B)))) → ∀ d ∈ D, Shw st S P d := fun hD d hd => hs d (hD d hd)
  have hp : SeqR P (F ++ Q2 ++ B) (rf ++ rp ++ rb) ∧ Pre S (rf ++ rp ++ rb) := (pre_shape (L := F ++ Q2 ++ B) (sub (by intro d hd; simp at hd ⊢; rcases hd with h | h | h <;> simp [h]))).mpr ⟨F, Q2, B, rfl, hF, hB, hQ2, rf, rp, rb, rfl, g3, g4, g5⟩
  refine ⟨?_, ?_⟩
  · rw [SeqR_app]
    refine ⟨ra, _, rfl, g1, ?_⟩
    rw [SeqR_app]
    refine ⟨rq, _, rfl, SeqR_mono (fun _ _ _ h => h.1) g2, ?_⟩
    simpa using hp.1
  · rw [cons_E (((all_state (sub (by intro d hd; simp [hd])) g1).2).mpr hA)]
    have hp2 : Pre S (rf ++ (rp ++ rb)) := by simpa using hp.2
    rcases hQ with rfl | ⟨p, rfl, hpp⟩
    · simp only [SeqR] at g2; subst g2
      exact pre_Cons hp2
    · rw [SeqR_one] at g2
      obtain ⟨-, -, -, s4⟩ := hs p (by simp) rq g2.1
      exact (cons_P (s4 hpp).1).mpr (Or.inl ⟨g2.2, hp2⟩)
def freeA (spl : Nat → Option (List (List Nat))) (st : Nat → Nat) (S : Nat) (C : List Nat) : Option (List (List Nat)) :=
  if 2 < (fE st S C 1).length then none
  else (midA spl (fE st S C 1)).bind (fun x => (midA spl (fE st S C 1).tail).map (fun y => x ++ bun (fE st S C 2) ++ y.reverse))
/-- rows of a free node whose empty parts stand about a line that may be turned -/
def NFree (P : Nat → List Nat → Prop) (E : List Nat) (x : List (List Nat)) (r : List Nat) : Prop := ∃ A B ra rq rb, (A ++ B).Perm E ∧ r = ra ++ (rq ++ rb) ∧ SeqR P A ra ∧ (SeqR (FreeR P) x rq ∨ SeqR (FreeR P) x rq.reverse) ∧ SeqR P B rb
theorem NFree_rev {P : Nat → List Nat → Prop} (hP : ∀ c r, P c r → P c r.reverse) {E : List Nat} {x : List (List Nat)} {r : List Nat} (h : NFree P E x r) : NFree P E x r.reverse := by
  obtain ⟨A, B, ra, rq, rb, hp, rfl, g1, g2, g3⟩ := h
  refine ⟨B.reverse, A.reverse, rb.reverse, rq.reverse, ra.reverse, ?_, by simp, SeqR_rev (fun c _ r => hP c r) g3, ?_, SeqR_rev (fun c _ r => hP c r) g1⟩
  · rw [← List.reverse_append]
    exact (List.reverse_perm _).trans hp
  · rw [List.reverse_reverse]; exact g2.symm
theorem perm_two {p q : Nat} {Q Q2 : List Nat} (h : (Q ++ Q2).Perm [p, q]) (h1 : Q.length ≤ 1) (h2 : Q2.length ≤ 1) : (Q = [p] ∧ Q2 = [q]) ∨ (Q = [q] ∧ Q2 = [p]) := by
  have hl := h.length_eq
  match Q, Q2, h1, h2 with
  | [a], [b], _, _ =>
    have ha : a ∈ [p, q] := h.mem_iff.mp (by simp)
    simp at ha
    rcases ha with rfl | rfl
    · have h3 : [b].Perm [q] := List.Perm.cons_inv (a := a) (by simpa using h)
      have := h3.eq_singleton
      exact Or.inl ⟨rfl, this⟩
    · have h3 : [b].Perm [p] := List.Perm.cons_inv (a := a) (by simpa using h.trans (List.Perm.swap _ _ _))
      have := h3.eq_singleton
      exact Or.inr ⟨rfl, this⟩
  | [], _, _, _ => simp at hl; omega
  | [_], [], _, _ => simp at hl
  | _ :: _ :: _, _, h, _ => simp at h
  | _, _ :: _ :: _, _, h => simp at h
