-- ===== a part taken asunder: its things of S at the end =====
def stt (st : Nat → Nat) (S c : Nat) : Nat := if st c &&& S = 0 then 0 else if st c &&& S = st c then 2 else 1
theorem stt_3 (st : Nat → Nat) (S c : Nat) : stt st S c = 0 ∨ stt st S c = 1 ∨ stt st S c = 2 := by
  unfold stt; split
  · exact Or.inl rfl
  · split
    · exact Or.inr (Or.inr rfl)
    · exact Or.inr (Or.inl rfl)
/-- what a row of a part shows of the part's state -/
def Shw (st : Nat → Nat) (S : Nat) (P : Nat → List Nat → Prop) (c : Nat) : Prop := ∀ r, P c r → r ≠ [] ∧ (stt st S c = 0 → noS S r) ∧ (stt st S c = 2 → allS S r) ∧ (stt st S c = 1 → mixS S r)
theorem shw_of {st : Nat → Nat} {S : Nat} {P : Nat → List Nat → Prop} {c : Nat} (h0 : st c ≠ 0) (h : ∀ r, P c r → ∀ x, x ∈ r ↔ (st c).testBit x = true) : Shw st S P c := by
  intro r hr
  have hx := h r hr
  refine ⟨?_, ?_, ?_, ?_⟩
  · rintro rfl
    obtain ⟨i, hi⟩ := Nat.exists_testBit_of_ne_zero h0
    have := (hx i).mpr hi
    simp at this
  · intro hs x hxr
    unfold stt at hs
    split at hs
    · rename_i e
      cases hb : S.testBit x with
      | false => rfl
      | true => exact absurd e (and_ne0.mpr ⟨x, (hx x).mp hxr, hb⟩)
    · split at hs <;> cases hs
  · intro hs x hxr
    unfold stt at hs
    split at hs
    · cases hs
    · split at hs
      · rename_i e
        have h1 := (hx x).mp hxr
        rw [← e, Nat.testBit_and] at h1
        simp at h1; exact h1.2
      · cases hs
  · intro hs
    unfold stt at hs
    split at hs
    · cases hs
    · rename_i e1
      split at hs
      · cases hs
      · rename_i e2
        obtain ⟨i, h1, h2⟩ := and_ne0.mp e1
        rw [Nat.and_comm] at e2
        obtain ⟨j, h3, h4⟩ := and_ne_r.mp e2
        exact ⟨⟨i, (hx i).mpr h1, h2⟩, ⟨j, (hx j).mpr h4, h3⟩⟩
theorem all_state {st : Nat → Nat} {S : Nat} {P : Nat → List Nat → Prop} : ∀ {L : List Nat} {r : List Nat}, (∀ c ∈ L, Shw st S P c) → SeqR P L r → ((allS S r ↔ ∀ c ∈ L, stt st S c = 2) ∧ (noS S r ↔ ∀ c ∈ L, stt st S c = 0)) := by
  intro L
  induction L with
  | nil => intro r _ h; simp only [SeqR] at h; subst h; exact ⟨⟨fun _ c hc => by simp at hc, fun _ => allS_nil⟩, ⟨fun _ c hc => by simp at hc, fun _ => noS_nil⟩⟩
  | cons c L ih =>
    rintro r hs ⟨a, b, rfl, h1, h2⟩
    obtain ⟨i1, i2⟩ := ih (fun d hd => hs d (by simp [hd])) h2
    obtain ⟨s1, s2, s3, s4⟩ := hs c (by simp) a h1
    rw [allS_app, noS_app, i1, i2]
    obtain ⟨y, hy⟩ : ∃ y, y ∈ a := by
      cases a with
      | nil => exact absurd rfl s1
      | cons y a => exact ⟨y, by simp⟩
    constructor
    · simp only [List.forall_mem_cons]
      refine and_congr_left fun _ => ⟨fun h => ?_, s3⟩
      rcases stt_3 st S c with e | e | e
      · have := s2 e y hy; rw [h y hy] at this; cases this
      · obtain ⟨-, z, hz, h3⟩ := s4 e; rw [h z hz] at h3; cases h3
      · exact e
    · simp only [List.forall_mem_cons]
      refine and_congr_left fun _ => ⟨fun h => ?_, s2⟩
      rcases stt_3 st S c with e | e | e
      · exact e
      · obtain ⟨⟨z, hz, h3⟩, -⟩ := s4 e; rw [h z hz] at h3; cases h3
      · have := s3 e y hy; rw [h y hy] at this; cases this
theorem suf_shape {st : Nat → Nat} {S : Nat} {P : Nat → List Nat → Prop} : ∀ {L : List Nat} {r : List Nat}, (∀ c ∈ L, Shw st S P c) → ((SeqR P L r ∧ Suf S r) ↔ ∃ A Q B, L = A ++ Q ++ B ∧ (∀ c ∈ A, stt st S c = 0) ∧ (∀ c ∈ B, stt st S c = 2) ∧ (Q = [] ∨ ∃ p, Q = [p] ∧ stt st S p = 1) ∧ ∃ ra rq rb, r = ra ++ rq ++ rb ∧ SeqR P A ra ∧ SeqR (fun c r => P c r ∧ Suf S r) Q rq ∧ SeqR P B rb) := by
  intro L
  induction L with
  | nil =>
    intro r hs
    constructor
    · rintro ⟨h, -⟩
      simp only [SeqR] at h; subst h
      exact ⟨[], [], [], rfl, fun c hc => by simp at hc, fun c hc => by simp at hc, Or.inl rfl, [], [], [], rfl, rfl, rfl, rfl⟩
    · rintro ⟨A, Q, B, e, -, -, -, ra, rq, rb, rfl, h1, h2, h3⟩
      simp at e
      obtain ⟨rfl, rfl, rfl⟩ := e
      simp only [SeqR] at h1 h2 h3
      subst h1; subst h2; subst h3
      exact ⟨rfl, [], [], rfl, noS_nil, allS_nil⟩
  | cons c L ih =>
    intro r hs
    have hsL : ∀ d ∈ L, Shw st S P d := fun d hd => hs d (by simp [hd])
    constructor
    · rintro ⟨⟨a, b, rfl, h1, h2⟩, hS⟩
      obtain ⟨s1, s2, s3, s4⟩ := hs c (by simp) a h1
      rcases stt_3 st S c with e | e | e
      · rw [suf_E (s2 e)] at hS
        obtain ⟨A, Q, B, rfl, hA, hB, hQ, ra, rq, rb, rfl, g1, g2, g3⟩ := (ih hsL).mp ⟨h2, hS⟩
        exact ⟨c :: A, Q, B, rfl, fun d hd => by rcases List.mem_cons.mp hd with rfl | hd; exact e; exact hA d hd, hB, hQ, a ++ ra, rq, rb, by simp, ⟨a, ra, rfl, h1, g1⟩, g2, g3⟩
      · rw [suf_P (s4 e).1] at hS
        have := ((all_state hsL h2).1).mp hS.2
        exact ⟨[], [c], L, rfl, fun d hd => by simp at hd, this, Or.inr ⟨c, rfl, e⟩, [], a, b, by simp, rfl, SeqR_one.mpr ⟨h1, hS.1⟩, h2⟩
      · rw [suf_F (s3 e) s1] at hS
        have := ((all_state hsL h2).1).mp hS
        exact ⟨[], [], c :: L, rfl, fun d hd => by simp at hd, fun d hd => by rcases List.mem_cons.mp hd with rfl | hd; exact e; exact this d hd, Or.inl rfl, [], [], a ++ b, by simp, rfl, rfl, ⟨a, b, rfl, h1, h2⟩⟩
    · rintro ⟨A, Q, B, e, hA, hB, hQ, ra, rq, rb, rfl, g1, g2, g3⟩
      have hAs : ∀ d ∈ A, Shw st S P d := fun d hd => hs d (by rw [e]; simp [hd])
      have hBs : ∀ d ∈ B, Shw st S P d := fun d hd => hs d (by rw [e]; simp [hd])
      rw [e]
      refine ⟨?_, ?_⟩
      · rw [List.append_assoc, List.append_assoc, SeqR_app]
        refine ⟨ra, rq ++ rb, rfl, g1, ?_⟩
        rw [SeqR_app]
        exact ⟨rq, rb, rfl, SeqR_mono (fun _ _ _ h => h.1) g2, g3⟩
      · rw [List.append_assoc, suf_E (((all_state hAs g1).2).mpr hA)]
        have hb := ((all_state hBs g3).1).mpr hB
        rcases hQ with rfl | ⟨p, rfl, hp⟩
        · simp only [SeqR] at g2; subst g2
          exact ⟨[], rb, rfl, noS_nil, hb⟩
        · rw [SeqR_one] at g2
          obtain ⟨-, -, -, s4⟩ := hs p (by rw [e]; simp) rq g2.1
          exact (suf_P (s4 hp).1).mpr ⟨g2.2, hb⟩
def fE (st : Nat → Nat) (S : Nat) (C : List Nat) (q : Nat) : List Nat := C.filter (fun c => stt st S c == q)
theorem fE_mem {st : Nat → Nat} {S q c : Nat} {C : List Nat} : c ∈ fE st S C q ↔ c ∈ C ∧ stt st S c = q := by simp [fE]
theorem fE_app {st : Nat → Nat} {S q : Nat} {A B : List Nat} : fE st S (A ++ B) q = fE st S A q ++ fE st S B q := by simp [fE]
theorem fE_all {st : Nat → Nat} {S q : Nat} {A : List Nat} (h : ∀ c ∈ A, stt st S c = q) : fE st S A q = A := by
  unfold fE; rw [List.filter_eq_self]; intro c hc; simp [h c hc]
theorem fE_none {st : Nat → Nat} {S q q2 : Nat} {A : List Nat} (h : ∀ c ∈ A, stt st S c = q2) (hq : q2 ≠ q) : fE st S A q = [] := by
  unfold fE; rw [List.filter_eq_nil_iff]; intro c hc; simp [h c hc, hq]
theorem fE_perm {st : Nat → Nat} {S q : Nat} {A B : List Nat} (h : A.Perm B) : (fE st S A q).Perm (fE st S B q) := h.filter _
theorem fE_part (st : Nat → Nat) (S : Nat) : ∀ C : List Nat, (fE st S C 0 ++ fE st S C 1 ++ fE st S C 2).Perm C := by
  intro C
  induction C with
  | nil => exact List.Perm.refl _
  | cons c C ih =>
    rcases stt_3 st S c with e | e | e
    · have h0 : fE st S (c :: C) 0 = c :: fE st S C 0 := by simp [fE, e]
      have h1 : fE st S (c :: C) 1 = fE st S C 1 := by simp [fE, e]
      have h2 : fE st S (c :: C) 2 = fE st S C 2 := by simp [fE, e]
      rw [h0, h1, h2]
      exact List.Perm.cons c ih
    · have h0 : fE st S (c :: C) 0 = fE st S C 0 := by simp [fE, e]
      have h1 : fE st S (c :: C) 1 = c :: fE st S C 1 := by simp [fE, e]
      have h2 : fE st S (c :: C) 2 = fE st S C 2 := by simp [fE, e]
      rw [h0, h1, h2, List.append_assoc, List.cons_append]
      refine List.perm_middle.trans ?_
      rw [← List.append_assoc]
      exact List.Perm.cons c ih
    · have h0 : fE st S (c :: C) 0 = fE st S C 0 := by simp [fE, e]
      have h1 : fE st S (c :: C) 1 = fE st S C 1 := by simp [fE, e]
      have h2 : fE st S (c :: C) 2 = c :: fE st S C 2 := by simp [fE, e]
      rw [h0, h1, h2]
      refine List.perm_middle.trans ?_
      exact List.Perm.cons c ih
/-- rows of parts in any order -/
def FreeR (P : Nat → List Nat → Prop) (L : List Nat) (r : List Nat) : Prop := ∃ M, M.Perm L ∧ SeqR P M r
theorem FreeR_nil {P : Nat → List Nat → Prop} {r : List Nat} : FreeR P [] r ↔ r = [] := by
  constructor
  · rintro ⟨M, h, h2⟩
    have := h.eq_nil
    subst this; exact h2
  · rintro rfl; exact ⟨[], List.Perm.refl _, rfl⟩
theorem FreeR_one {P : Nat → List Nat → Prop} {c : Nat} {r : List Nat} : FreeR P [c] r ↔ P c r := by
  constructor
  · rintro ⟨M, h, h2⟩
    have := h.eq_singleton
    subst this; exact SeqR_one.mp h2
  · intro h; exact ⟨[c], List.Perm.refl _, SeqR_one.mpr h⟩
theorem FreeR_perm {P : Nat → List Nat → Prop} {A B : List Nat} {r : List Nat} (h : A.Perm B) : FreeR P A r ↔ FreeR P B r :=
  ⟨fun ⟨M, h1, h2⟩ => ⟨M, h1.trans h, h2⟩, fun ⟨M, h1, h2⟩ => ⟨M, h1.trans h.symm, h2⟩⟩
theorem FreeR_rev {P : Nat → List Nat → Prop} {A : List Nat} {r : List Nat} (hP : ∀ c ∈ A, ∀ r, P c r → P c r.reverse) (h : FreeR P A r) : FreeR P A r.reverse := by
  obtain ⟨M, h1, h2⟩ := h
  exact ⟨M.reverse, (List.reverse_perm _).trans h1, SeqR_rev (fun c hc => hP c (h1.mem_iff.mp hc)) h2⟩
def bun (L : List Nat) : List (List Nat) := if L = [] then [] else [L]
theorem bun_seq {P : Nat → List Nat → Prop} {L : List Nat} {r : List Nat} : SeqR (FreeR P) (bun L) r ↔ FreeR P L r := by
  unfold bun
  split
  · rename_i h; subst h; rw [FreeR_nil]; rfl
  · exact SeqR_one
theorem singles_seq {P : Nat → List Nat → Prop} : ∀ {L : List Nat} {r : List Nat}, SeqR (FreeR P) (L.map (fun c => [c])) r ↔ SeqR P L r := by
  intro L
  induction L with
  | nil => intro r; exact Iff.rfl
  | cons c L ih =>
    intro r
    simp only [List.map_cons, SeqR, FreeR_one, ih]
theorem free_suf {st : Nat → Nat} {S : Nat} {P : Nat → List Nat → Prop} {C : List Nat} {r : List Nat} (hs : ∀ c ∈ C, Shw st S P c) : (FreeR P C r ∧ Suf S r) ↔ (fE st S C 1).length ≤ 1 ∧ ∃ ra rq rb, r = ra ++ rq ++ rb ∧ FreeR P (fE st S C 0) ra ∧ SeqR (fun c r => P c r ∧ Suf S r) (fE st S C 1) rq ∧ FreeR P (fE st S C 2) rb := by
  constructor
  · rintro ⟨⟨M, hM, h1⟩, h2⟩
    obtain ⟨A, Q, B, e, hA, hB, hQ, ra, rq, rb, rfl, g1, g2, g3⟩ := (suf_shape (fun c hc => hs c (hM.mem_iff.mp hc))).mp ⟨h1, h2⟩
    have hQ1 : ∀ c ∈ Q, stt st S c = 1 := by
      rcases hQ with rfl | ⟨p, rfl, hp⟩
      · intro c hc; simp at hc
      · intro c hc; rw [List.mem_singleton.mp hc]; exact hp
    have f0 : fE st S M 0 = A := by rw [e, fE_app, fE_app, fE_all hA, fE_none hQ1 (by decide), fE_none hB (by decide)]; simp
    have f1 : fE st S M 1 = Q := by rw [e, fE_app, fE_app, fE_all hQ1, fE_none hA (by decide), fE_none hB (by decide)]; simp
    have f2 : fE st S M 2 = B := by rw [e, fE_app, fE_app, fE_all hB, fE_none hQ1 (by decide), fE_none hA (by decide)]; simp
    have p1 : Q.Perm (fE st S C 1) := by rw [← f1]; exact fE_perm hM
    have hlen : Q.length ≤ 1 := by rcases hQ with rfl | ⟨p, rfl, -⟩ <;> simp
    have hQe : fE st S C 1 = Q := by
      rcases hQ with rfl | ⟨p, rfl, -⟩
      · exact p1.symm.eq_nil
      · exact p1.symm.eq_singleton
    refine ⟨by rw [← p1.length_eq]; exact hlen, ra, rq, rb, rfl, ⟨A, by rw [← f0]; exact fE_perm hM, g1⟩, by rw [hQe]; exact g2, ⟨B, by rw [← f2]; exact fE_perm hM, g3⟩⟩
  · rintro ⟨hl, ra, rq, rb, rfl, ⟨A, pA, gA⟩, gQ, ⟨B, pB, gB⟩⟩
    have hM : (A ++ fE st S C 1 ++ B).Perm C := ((pA.append_right _).append pB).trans (fE_part st S C)
    have := (suf_shape (P := P) (L := A ++ fE st S C 1 ++ B) (r := ra ++ rq ++ rb) (fun c hc => hs c (hM.mem_iff.mp hc))).mpr ⟨A, fE st S C 1, B, rfl, fun c hc => (fE_mem.mp (pA.mem_iff.mp hc)).2, fun c hc => (fE_mem.mp (pB.mem_iff.mp hc)).2, ?_, ra, rq, rb, rfl, gA, gQ, gB⟩
    · exact ⟨⟨_, hM, this.1⟩, this.2⟩
    · match hq : fE st S C 1, hl with
      | [], _ => exact Or.inl rfl
      | [p], _ => exact Or.inr ⟨p, rfl, (fE_mem.mp (by rw [hq]; simp : p ∈ fE st S C 1)).2⟩
      | _ :: _ :: _, h => simp at h
