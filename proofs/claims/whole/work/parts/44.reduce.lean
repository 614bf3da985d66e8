-- ===== a node reduced by S =====
def nE (st : Nat → Nat) (S : Nat) (C : List Nat) : Nat := (C.filter (fun c => !(stt st S c == 0))).length
theorem nE_cons {st : Nat → Nat} {S c : Nat} {C : List Nat} : nE st S (c :: C) = nE st S C + (if stt st S c = 0 then 0 else 1) := by
  unfold nE
  by_cases h : stt st S c = 0
  · simp [h]
  · simp [h]
theorem nE_pos {st : Nat → Nat} {S : Nat} {C : List Nat} (h : 1 ≤ nE st S C) : ∃ c ∈ C, stt st S c ≠ 0 := by
  unfold nE at h
  obtain ⟨c, hc⟩ := List.length_pos_iff_exists_mem.mp h
  rw [List.mem_filter] at hc
  exact ⟨c, hc.1, by simpa using hc.2⟩
theorem nE_perm {st : Nat → Nat} {S : Nat} {A B : List Nat} (h : A.Perm B) : nE st S A = nE st S B := (h.filter _).length_eq
/-- the line that a turning node becomes -/
def turnA (spl : Nat → Option (List (List Nat))) (st : Nat → Nat) (S : Nat) : List Nat → Nat → Option (List (List Nat))
  | [], _ => some []
  | c :: L, sg =>
    if stt st S c = 0 then (turnA spl st S L (if sg = 0 then 0 else 2)).map (fun m => [c] :: m)
    else if sg = 2 then none
    else if stt st S c = 2 then (turnA spl st S L 1).map (fun m => [c] :: m)
    else (spl c).bind (fun x => if sg = 0 then (turnA spl st S L 1).map (fun m => x ++ m) else (turnA spl st S L 2).map (fun m => x.reverse ++ m))
def QS (S sg : Nat) (r : List Nat) : Prop := if sg = 0 then Cons S r else if sg = 1 then Pre S r else noS S r
/-- what taking asunder is for a partial part -/
def SplOk (P : Nat → List Nat → Prop) (S : Nat) (spl : Nat → Option (List (List Nat))) (c : Nat) : Prop := (∀ x, spl c = some x → ∀ r, SeqR (FreeR P) x r ↔ (P c r ∧ Suf S r)) ∧ (spl c = none → ∀ r, P c r → ¬ Suf S r)
theorem seqB_rev {P : Nat → List Nat → Prop} (hP : ∀ c r, P c r → P c r.reverse) {x : List (List Nat)} {r : List Nat} : SeqR (FreeR P) x.reverse r ↔ SeqR (FreeR P) x r.reverse := by
  constructor
  · intro h
    have := SeqR_rev (fun L _ r hr => FreeR_rev (fun c _ r => hP c r) hr) h
    rwa [List.reverse_reverse] at this
  · intro h
    have := SeqR_rev (fun L _ r hr => FreeR_rev (fun c _ r => hP c r) hr) h
    rwa [List.reverse_reverse] at this
theorem splOk_pre {P : Nat → List Nat → Prop} (hP : ∀ c r, P c r → P c r.reverse) {S c : Nat} {spl : Nat → Option (List (List Nat))} (h : SplOk P S spl c) : (∀ x, spl c = some x → ∀ r, SeqR (FreeR P) x.reverse r ↔ (P c r ∧ Pre S r)) ∧ (spl c = none → ∀ r, P c r → ¬ Pre S r) := by
  refine ⟨fun x hx r => ?_, fun hno r hr hp => ?_⟩
  · rw [seqB_rev hP, h.1 x hx, suf_rev]
    exact ⟨fun z => ⟨by have := hP c _ z.1; rwa [List.reverse_reverse] at this, z.2⟩, fun z => ⟨hP c _ z.1, z.2⟩⟩
  · exact h.2 hno r.reverse (hP c r hr) (suf_rev.mpr hp)
theorem turnA_ok {P : Nat → List Nat → Prop} (hP : ∀ c r, P c r → P c r.reverse) {st : Nat → Nat} {S : Nat} {spl : Nat → Option (List (List Nat))} : ∀ (L : List Nat) (sg : Nat), sg ≤ 2 → (∀ c ∈ L, Shw st S P c) → (∀ c ∈ L, stt st S c = 1 → SplOk P S spl c) → (sg = 0 → 2 ≤ nE st S L ∨ nE st S L = 0) → (∀ x, turnA spl st S L sg = some x → ∀ r, SeqR (FreeR P) x r ↔ (SeqR P L r ∧ QS S sg r)) ∧ (turnA spl st S L sg = none → ∀ r, SeqR P L r → ¬ QS S sg r) := by
  intro L
  induction L with
  | nil =>
    intro sg hsg hs hsp hn
    refine ⟨fun x hx r => ?_, fun h => by simp [turnA] at h⟩
    simp only [turnA, Option.some.injEq] at hx
    subst hx
    simp only [SeqR]
    refine ⟨fun e => ⟨e, ?_⟩, fun e => e.1⟩
    subst e
    unfold QS
    split
    · exact noS_cons_of noS_nil
    · split
      · exact noS_pre noS_nil
      · exact noS_nil
  | cons c L ih =>
    intro sg hsg hs hsp hn
    have hsL : ∀ d ∈ L, Shw st S P d := fun d hd => hs d (by simp [hd])
    have hspL : ∀ d ∈ L, stt st S d = 1 → SplOk P S spl d := fun d hd => hsp d (by simp [hd])
    have hc := hs c (by simp)
    unfold turnA
    by_cases e0 : stt st S c = 0
    · -- an empty part
      rw [if_pos e0]
      have hq : ∀ a b, P c a → (QS S sg (a ++ b) ↔ QS S (if sg = 0 then 0 else 2) b) := by
        intro a b ha
        obtain ⟨s1, s2, -, -⟩ := hc a ha
        rcases (by omega : sg = 0 ∨ sg = 1 ∨ sg = 2) with g | g | g <;> subst g
        · show Cons S (a ++ b) ↔ Cons S b
          exact cons_E (s2 e0)
        · show Pre S (a ++ b) ↔ noS S b
          obtain ⟨y, hy⟩ : ∃ y, y ∈ a := by
            cases a with
            | nil => exact absurd rfl s1
            | cons y a => exact ⟨y, by simp⟩
          rw [pre_P ⟨y, hy, s2 e0 y hy⟩]
          exact ⟨fun z => z.2, fun z => ⟨noS_pre (s2 e0), z⟩⟩
        · show noS S (a ++ b) ↔ noS S b
          rw [noS_app]
          exact ⟨fun z => z.2, fun z => ⟨s2 e0, z⟩⟩
      obtain ⟨i1, i2⟩ := ih (if sg = 0 then 0 else 2) (by split <;> omega) hsL hspL (by
        intro hh
        have : sg = 0 := by
          by_cases g0 : sg = 0
          · exact g0
          · rw [if_neg g0] at hh; cases hh
        have := hn this
        rw [nE_cons, if_pos e0] at this
        omega)
      refine ⟨fun x hx r => ?_, fun hno r hr hQ => ?_⟩
      · obtain ⟨m, hm, rfl⟩ := Option.map_eq_some_iff.mp hx
        simp only [SeqR, FreeR_one]
        constructor
        · rintro ⟨a, b, rfl, h1, h2⟩
          have := (i1 m hm b).mp h2
          exact ⟨⟨a, b, rfl, h1, this.1⟩, (hq a b h1).mpr this.2⟩
        · rintro ⟨⟨a, b, rfl, h1, h2⟩, h3⟩
          exact ⟨a, b, rfl, h1, (i1 m hm b).mpr ⟨h2, (hq a b h1).mp h3⟩⟩
      · have hm := Option.map_eq_none_iff.mp hno
        obtain ⟨a, b, rfl, h1, h2⟩ := hr
        exact i2 hm b h2 ((hq a b h1).mp hQ)
    · rw [if_neg e0]
      by_cases g2 : sg = 2
      · rw [if_pos g2]
        refine ⟨fun x hx => (by cases hx), fun _ r hr hQ => ?_⟩
        obtain ⟨a, b, rfl, h1, h2⟩ := hr
        unfold QS at hQ
        rw [g2, if_neg (by decide), if_neg (by decide), noS_app] at hQ
        obtain ⟨s1, -, s3, s4⟩ := hc a h1
        rcases stt_3 st S c with e | e | e
        · exact e0 e
        · obtain ⟨⟨y, hy, h⟩, -⟩ := s4 e; rw [hQ.1 y hy] at h; cases h
        · cases a with
          | nil => exact s1 rfl
          | cons y a => have := s3 e y (by simp); rw [hQ.1 y (by simp)] at this; cases this
      · rw [if_neg g2]
        by_cases e2 : stt st S c = 2
        · rw [if_pos e2]
          have hq : ∀ a b, P c a → (QS S sg (a ++ b) ↔ QS S 1 b) := by
            intro a b ha
            obtain ⟨s1, -, s3, -⟩ := hc a ha
            rcases (by omega : sg = 0 ∨ sg = 1) with g | g <;> subst g
            · show Cons S (a ++ b) ↔ Pre S b
              exact cons_F (s3 e2) s1
            · show Pre S (a ++ b) ↔ Pre S b
              exact pre_F (s3 e2)
          obtain ⟨i1, i2⟩ := ih 1 (by omega) hsL hspL (by intro h; cases h)
          refine ⟨fun x hx r => ?_, fun hno r hr hQ => ?_⟩
          · obtain ⟨m, hm, rfl⟩ := Option.map_eq_some_iff.mp hx
            simp only [SeqR, FreeR_one]
            constructor
            · rintro ⟨a, b, rfl, h1, h2⟩
              have := (i1 m hm b).mp h2
              exact ⟨⟨a, b, rfl, h1, this.1⟩, (hq a b h1).mpr this.2⟩
            · rintro ⟨⟨a, b, rfl, h1, h2⟩, h3⟩
              exact ⟨a, b, rfl, h1, (i1 m hm b).mpr ⟨h2, (hq a b h1).mp h3⟩⟩
          · have hm := Option.map_eq_none_iff.mp hno
            obtain ⟨a, b, rfl, h1, h2⟩ := hr
            exact i2 hm b h2 ((hq a b h1).mp hQ)
        · rw [if_neg e2]
          have e1 : stt st S c = 1 := by rcases stt_3 st S c with e | e | e; exact absurd e e0; exact e; exact absurd e e2
          have hsc := hsp c (by simp) e1
          have hscp := splOk_pre hP hsc
          by_cases g0 : sg = 0
          · -- it begins here
            subst g0
            have hrest : ∀ b, SeqR P L b → ¬ noS S b := by
              intro b hb hno
              have h1 := ((all_state hsL hb).2).mp hno
              have h2 := hn rfl
              rw [nE_cons, if_neg e0] at h2
              obtain ⟨d, hd, hd2⟩ := nE_pos (st := st) (S := S) (C := L) (by omega)
              exact hd2 (h1 d hd)
            have hq : ∀ a b, P c a → SeqR P L b → (QS S 0 (a ++ b) ↔ Suf S a ∧ QS S 1 b) := by
              intro a b ha hb
              obtain ⟨-, -, -, s4⟩ := hc a ha
              show Cons S (a ++ b) ↔ Suf S a ∧ Pre S b
              rw [cons_P (s4 e1).1]
              exact ⟨fun z => z.elim id (fun z => absurd z.2 (hrest b hb)), Or.inl⟩
            obtain ⟨i1, i2⟩ := ih 1 (by omega) hsL hspL (by intro h; cases h)
            refine ⟨fun x hx r => ?_, fun hno r hr hQ => ?_⟩
            · obtain ⟨y, hy, hx⟩ := Option.bind_eq_some_iff.mp hx
              rw [if_pos rfl] at hx
              obtain ⟨m, hm, rfl⟩ := Option.map_eq_some_iff.mp hx
              rw [SeqR_app]
              constructor
              · rintro ⟨a, b, rfl, h1, h2⟩
                have h1 := (hsc.1 y hy a).mp h1
                have h2 := (i1 m hm b).mp h2
                exact ⟨⟨a, b, rfl, h1.1, h2.1⟩, (hq a b h1.1 h2.1).mpr ⟨h1.2, h2.2⟩⟩
              · rintro ⟨⟨a, b, rfl, h1, h2⟩, h3⟩
                have h3 := (hq a b h1 h2).mp h3
                exact ⟨a, b, rfl, (hsc.1 y hy a).mpr ⟨h1, h3.1⟩, (i1 m hm b).mpr ⟨h2, h3.2⟩⟩
            · obtain ⟨a, b, rfl, h1, h2⟩ := hr
              have h3 := (hq a b h1 h2).mp hQ
              cases hy : spl c with
              | none => exact hsc.2 hy a h1 h3.1
              | some y =>
                rw [hy] at hno
                simp only [Option.bind_some, if_pos] at hno
                exact i2 (Option.map_eq_none_iff.mp hno) b h2 h3.2
          · -- it ends here
            have g1 : sg = 1 := by omega
            subst g1
            have hq : ∀ a b, P c a → (QS S 1 (a ++ b) ↔ Pre S a ∧ QS S 2 b) := by
              intro a b ha
              obtain ⟨-, -, -, s4⟩ := hc a ha
              show Pre S (a ++ b) ↔ Pre S a ∧ noS S b
              exact pre_P (s4 e1).2
            obtain ⟨i1, i2⟩ := ih 2 (by omega) hsL hspL (by intro h; cases h)
            refine ⟨fun x hx r => ?_, fun hno r hr hQ => ?_⟩
            · obtain ⟨y, hy, hx⟩ := Option.bind_eq_some_iff.mp hx
              rw [if_neg (by decide)] at hx
              obtain ⟨m, hm, rfl⟩ := Option.map_eq_some_iff.mp hx
              rw [SeqR_app]
              constructor
              · rintro ⟨a, b, rfl, h1, h2⟩
                have h1 := (hscp.1 y hy a).mp h1
                have h2 := (i1 m hm b).mp h2
                exact ⟨⟨a, b, rfl, h1.1, h2.1⟩, (hq a b h1.1).mpr ⟨h1.2, h2.2⟩⟩
              · rintro ⟨⟨a, b, rfl, h1, h2⟩, h3⟩
                have h3 := (hq a b h1).mp h3
                exact ⟨a, b, rfl, (hscp.1 y hy a).mpr ⟨h1, h3.1⟩, (i1 m hm b).mpr ⟨h2, h3.2⟩⟩
            · obtain ⟨a, b, rfl, h1, h2⟩ := hr
              have h3 := (hq a b h1).mp hQ
              cases hy : spl c with
              | none => exact hscp.2 hy a h1 h3.1
              | some y =>
                rw [hy] at hno
                simp only [Option.bind_some] at hno
                rw [if_neg (by decide)] at hno
                exact i2 (Option.map_eq_none_iff.mp hno) b h2 h3.2
