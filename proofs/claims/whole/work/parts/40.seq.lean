-- ===== rows in parts =====
def SeqR {α : Type} (P : α → List Nat → Prop) : List α → List Nat → Prop
  | [], r => r = []
  | c :: L, r => ∃ a b, r = a ++ b ∧ P c a ∧ SeqR P L b
theorem SeqR_app {α : Type} {P : α → List Nat → Prop} : ∀ (A B : List α) (r : List Nat), SeqR P (A ++ B) r ↔ ∃ a b, r = a ++ b ∧ SeqR P A a ∧ SeqR P B b := by
  intro A
  induction A with
  | nil =>
    intro B r
    simp only [List.nil_append, SeqR]
    constructor
    · intro h; exact ⟨[], r, rfl, rfl, h⟩
    · rintro ⟨a, b, rfl, rfl, h⟩; exact h
  | cons c A ih =>
    intro B r
    simp only [List.cons_append, SeqR]
    constructor
    · rintro ⟨a, b, rfl, h1, h2⟩
      obtain ⟨x, y, rfl, h3, h4⟩ := (ih B b).mp h2
      exact ⟨a ++ x, y, by simp, ⟨a, x, rfl, h1, h3⟩, h4⟩
    · rintro ⟨a, b, rfl, ⟨x, y, rfl, h1, h2⟩, h3⟩
      exact ⟨x, y ++ b, by simp, h1, (ih B _).mpr ⟨y, b, rfl, h2, h3⟩⟩
theorem SeqR_one {α : Type} {P : α → List Nat → Prop} {c : α} {r : List Nat} : SeqR P [c] r ↔ P c r := by
  simp only [SeqR]
  constructor
  · rintro ⟨a, b, rfl, h, rfl⟩; simpa using h
  · intro h; exact ⟨r, [], by simp, h, rfl⟩
theorem SeqR_mono {α : Type} {P Q : α → List Nat → Prop} : ∀ {L : List α} {r : List Nat}, (∀ c ∈ L, ∀ r, P c r → Q c r) → SeqR P L r → SeqR Q L r := by
  intro L
  induction L with
  | nil => intro r _ h; exact h
  | cons c L ih =>
    rintro r h ⟨a, b, rfl, h1, h2⟩
    exact ⟨a, b, rfl, h c (by simp) a h1, ih (fun d hd => h d (by simp [hd])) h2⟩
theorem SeqR_congr {α : Type} {P Q : α → List Nat → Prop} {L : List α} {r : List Nat} (h : ∀ c ∈ L, ∀ r, P c r ↔ Q c r) : SeqR P L r ↔ SeqR Q L r :=
  ⟨SeqR_mono (fun c hc r => (h c hc r).mp), SeqR_mono (fun c hc r => (h c hc r).mpr)⟩
theorem SeqR_rev {α : Type} {P : α → List Nat → Prop} : ∀ {L : List α} {r : List Nat}, (∀ c ∈ L, ∀ r, P c r → P c r.reverse) → SeqR P L r → SeqR P L.reverse r.reverse := by
  intro L
  induction L with
  | nil => intro r _ h; simp only [SeqR] at h ⊢; subst h; rfl
  | cons c L ih =>
    rintro r h ⟨a, b, rfl, h1, h2⟩
    rw [List.reverse_cons, List.reverse_append, SeqR_app]
    exact ⟨_, _, rfl, ih (fun d hd => h d (by simp [hd])) h2, SeqR_one.mpr (h c (by simp) a h1)⟩
def noS (S : Nat) (r : List Nat) : Prop := ∀ x ∈ r, S.testBit x = false
def allS (S : Nat) (r : List Nat) : Prop := ∀ x ∈ r, S.testBit x = true
def Suf (S : Nat) (r : List Nat) : Prop := ∃ a b, r = a ++ b ∧ noS S a ∧ allS S b
def Pre (S : Nat) (r : List Nat) : Prop := ∃ a b, r = a ++ b ∧ allS S a ∧ noS S b
def mixS (S : Nat) (r : List Nat) : Prop := (∃ x ∈ r, S.testBit x = true) ∧ ∃ x ∈ r, S.testBit x = false
theorem noS_app {S : Nat} {a b : List Nat} : noS S (a ++ b) ↔ noS S a ∧ noS S b := by
  simp only [noS, List.mem_append]
  exact ⟨fun h => ⟨fun x hx => h x (Or.inl hx), fun x hx => h x (Or.inr hx)⟩, fun h x hx => hx.elim (h.1 x) (h.2 x)⟩
theorem allS_app {S : Nat} {a b : List Nat} : allS S (a ++ b) ↔ allS S a ∧ allS S b := by
  simp only [allS, List.mem_append]
  exact ⟨fun h => ⟨fun x hx => h x (Or.inl hx), fun x hx => h x (Or.inr hx)⟩, fun h x hx => hx.elim (h.1 x) (h.2 x)⟩
theorem noS_nil {S : Nat} : noS S [] := fun x h => by simp at h
theorem allS_nil {S : Nat} : allS S [] := fun x h => by simp at h
theorem noS_rev {S : Nat} {r : List Nat} : noS S r.reverse ↔ noS S r := by simp [noS]
theorem allS_rev {S : Nat} {r : List Nat} : allS S r.reverse ↔ allS S r := by simp [allS]
theorem suf_rev {S : Nat} {r : List Nat} : Suf S r.reverse ↔ Pre S r := by
  constructor
  · rintro ⟨a, b, e, h1, h2⟩
    have : r = b.reverse ++ a.reverse := by rw [← List.reverse_append, ← e, List.reverse_reverse]
    exact ⟨b.reverse, a.reverse, this, allS_rev.mpr h2, noS_rev.mpr h1⟩
  · rintro ⟨a, b, rfl, h1, h2⟩
    exact ⟨b.reverse, a.reverse, by simp, noS_rev.mpr h2, allS_rev.mpr h1⟩
theorem pre_rev {S : Nat} {r : List Nat} : Pre S r.reverse ↔ Suf S r := by
  rw [← suf_rev, List.reverse_reverse]
theorem Cons.rev {S : Nat} {r : List Nat} (h : Cons S r) : Cons S r.reverse := by
  obtain ⟨a, b, c, rfl, h1, h2, h3⟩ := h
  exact ⟨c.reverse, b.reverse, a.reverse, by simp, by simpa using h3, by simpa using h2, by simpa using h1⟩
theorem cons_rev {S : Nat} {r : List Nat} : Cons S r.reverse ↔ Cons S r := ⟨fun h => by have := h.rev; rwa [List.reverse_reverse] at this, Cons.rev⟩
-- splitting a list where S ends or begins
theorem pre_cons {S x : Nat} {r : List Nat} : Pre S (x :: r) ↔ if S.testBit x = true then Pre S r else noS S r := by
  cases hx : S.testBit x with
  | true =>
    simp only [if_true]
    constructor
    · rintro ⟨a, b, e, h1, h2⟩
      cases a with
      | nil =>
        simp at e; subst e
        have := h2 x (by simp); rw [hx] at this; cases this
      | cons y a =>
        simp at e; obtain ⟨rfl, rfl⟩ := e
        exact ⟨a, b, rfl, fun z hz => h1 z (by simp [hz]), h2⟩
    · rintro ⟨a, b, rfl, h1, h2⟩
      exact ⟨x :: a, b, rfl, fun z hz => by rcases List.mem_cons.mp hz with rfl | hz; exact hx; exact h1 z hz, h2⟩
  | false =>
    simp only [Bool.false_eq_true, if_false]
    constructor
    · rintro ⟨a, b, e, h1, h2⟩
      cases a with
      | nil => simp at e; subst e; exact fun z hz => h2 z (by simp [hz])
      | cons y a =>
        simp at e; obtain ⟨rfl, rfl⟩ := e
        have := h1 x (by simp); rw [hx] at this; cases this
    · intro h
      exact ⟨[], x :: r, rfl, allS_nil, fun z hz => by rcases List.mem_cons.mp hz with rfl | hz; exact hx; exact h z hz⟩
theorem suf_cons {S x : Nat} {r : List Nat} : Suf S (x :: r) ↔ if S.testBit x = true then allS S r else Suf S r := by
  cases hx : S.testBit x with
  | true =>
    simp only [if_true]
    constructor
    · rintro ⟨a, b, e, h1, h2⟩
      cases a with
      | nil => simp at e; subst e; exact fun z hz => h2 z (by simp [hz])
      | cons y a =>
        simp at e; obtain ⟨rfl, rfl⟩ := e
        have := h1 x (by simp); rw [hx] at this; cases this
    · intro h
      exact ⟨[], x :: r, rfl, noS_nil, fun z hz => by rcases List.mem_cons.mp hz with rfl | hz; exact hx; exact h z hz⟩
  | false =>
    simp only [Bool.false_eq_true, if_false]
    constructor
    · rintro ⟨a, b, e, h1, h2⟩
      cases a with
      | nil =>
        simp at e; subst e
        have := h2 x (by simp); rw [hx] at this; cases this
      | cons y a =>
        simp at e; obtain ⟨rfl, rfl⟩ := e
        exact ⟨a, b, rfl, fun z hz => h1 z (by simp [hz]), h2⟩
    · rintro ⟨a, b, rfl, h1, h2⟩
      exact ⟨x :: a, b, rfl, fun z hz => by rcases List.mem_cons.mp hz with rfl | hz; exact hx; exact h1 z hz, h2⟩
theorem cons_cons {S x : Nat} {r : List Nat} : Cons S (x :: r) ↔ if S.testBit x = true then Pre S r else Cons S r := by
  cases hx : S.testBit x with
  | true =>
    simp only [if_true]
    constructor
    · rintro ⟨a, b, c, e, h1, h2, h3⟩
      cases a with
      | nil =>
        cases b with
        | nil =>
          simp at e; subst e
          have := h3 x (by simp); rw [hx] at this; cases this
        | cons y b =>
          simp at e; obtain ⟨rfl, rfl⟩ := e
          exact ⟨b, c, rfl, fun z hz => h2 z (by simp [hz]), h3⟩
      | cons y a =>
        simp at e; obtain ⟨rfl, rfl⟩ := e
        have := h1 x (by simp); rw [hx] at this; cases this
    · rintro ⟨a, b, rfl, h1, h2⟩
      exact ⟨[], x :: a, b, rfl, noS_nil, fun z hz => by rcases List.mem_cons.mp hz with rfl | hz; exact hx; exact h1 z hz, h2⟩
  | false =>
    simp only [Bool.false_eq_true, if_false]
    constructor
    · rintro ⟨a, b, c, e, h1, h2, h3⟩
      cases a with
      | nil =>
        cases b with
        | nil =>
          simp at e; subst e
          exact ⟨r, [], [], by simp, fun z hz => h3 z (by simp [hz]), fun z hz => by simp at hz, fun z hz => by simp at hz⟩
        | cons y b =>
          simp at e; obtain ⟨rfl, rfl⟩ := e
          have := h2 x (by simp); rw [hx] at this; cases this
      | cons y a =>
        simp at e; obtain ⟨rfl, rfl⟩ := e
        exact ⟨a, b, c, by simp, fun z hz => h1 z (by simp [hz]), h2, h3⟩
    · rintro ⟨a, b, c, rfl, h1, h2, h3⟩
      exact ⟨x :: a, b, c, by simp, fun z hz => by rcases List.mem_cons.mp hz with rfl | hz; exact hx; exact h1 z hz, h2, h3⟩
theorem noS_cons {S x : Nat} {r : List Nat} : noS S (x :: r) ↔ S.testBit x = false ∧ noS S r := by simp [noS]
theorem allS_cons {S x : Nat} {r : List Nat} : allS S (x :: r) ↔ S.testBit x = true ∧ allS S r := by simp [allS]
theorem noS_cons_of {S : Nat} {r : List Nat} (h : noS S r) : Cons S r := ⟨r, [], [], by simp, h, fun z hz => by simp at hz, fun z hz => by simp at hz⟩
theorem noS_pre {S : Nat} {r : List Nat} (h : noS S r) : Pre S r := ⟨[], r, rfl, allS_nil, h⟩
theorem pre_Cons {S : Nat} {r : List Nat} (h : Pre S r) : Cons S r := by
  obtain ⟨a, b, rfl, h1, h2⟩ := h
  exact ⟨[], a, b, rfl, noS_nil, h1, h2⟩
theorem suf_E {S : Nat} {a r : List Nat} (h : noS S a) : Suf S (a ++ r) ↔ Suf S r := by
  induction a with
  | nil => simp
  | cons x a ih =>
    obtain ⟨h1, h2⟩ := noS_cons.mp h
    rw [List.cons_append, suf_cons, h1]; simpa using ih h2
theorem suf_F {S : Nat} {a r : List Nat} (h : allS S a) (hne : a ≠ []) : Suf S (a ++ r) ↔ allS S r := by
  cases a with
  | nil => exact absurd rfl hne
  | cons x a =>
    obtain ⟨h1, h2⟩ := allS_cons.mp h
    rw [List.cons_append, suf_cons, if_pos h1, allS_app]
    exact ⟨fun z => z.2, fun z => ⟨h2, z⟩⟩
theorem suf_P {S : Nat} {a r : List Nat} (h : ∃ x ∈ a, S.testBit x = true) : Suf S (a ++ r) ↔ Suf S a ∧ allS S r := by
  induction a with
  | nil => obtain ⟨x, hx, -⟩ := h; simp at hx
  | cons x a ih =>
    rw [List.cons_append, suf_cons, suf_cons]
    cases hx : S.testBit x with
    | true => simp only [if_true]; exact allS_app
    | false =>
      simp only [Bool.false_eq_true, if_false]
      apply ih
      obtain ⟨y, hy, h1⟩ := h
      rcases List.mem_cons.mp hy with rfl | hy
      · rw [hx] at h1; cases h1
      · exact ⟨y, hy, h1⟩
theorem pre_F {S : Nat} {a r : List Nat} (h : allS S a) : Pre S (a ++ r) ↔ Pre S r := by
  induction a with
  | nil => simp
  | cons x a ih =>
    obtain ⟨h1, h2⟩ := allS_cons.mp h
    rw [List.cons_append, pre_cons, if_pos h1]; exact ih h2
theorem pre_P {S : Nat} {a r : List Nat} (h : ∃ x ∈ a, S.testBit x = false) : Pre S (a ++ r) ↔ Pre S a ∧ noS S r := by
  induction a with
  | nil => obtain ⟨x, hx, -⟩ := h; simp at hx
  | cons x a ih =>
    rw [List.cons_append, pre_cons, pre_cons]
    cases hx : S.testBit x with
    | false => simp only [Bool.false_eq_true, if_false]; exact noS_app
    | true =>
      simp only [if_true]
      apply ih
      obtain ⟨y, hy, h1⟩ := h
      rcases List.mem_cons.mp hy with rfl | hy
      · rw [hx] at h1; cases h1
      · exact ⟨y, hy, h1⟩
theorem cons_E {S : Nat} {a r : List Nat} (h : noS S a) : Cons S (a ++ r) ↔ Cons S r := by
  induction a with
  | nil => simp
  | cons x a ih =>
    obtain ⟨h1, h2⟩ := noS_cons.mp h
    rw [List.cons_append, cons_cons, h1]; simpa using ih h2
theorem cons_F {S : Nat} {a r : List Nat} (h : allS S a) (hne : a ≠ []) : Cons S (a ++ r) ↔ Pre S r := by
  cases a with
  | nil => exact absurd rfl hne
  | cons x a =>
    obtain ⟨h1, h2⟩ := allS_cons.mp h
    rw [List.cons_append, cons_cons, if_pos h1]; exact pre_F h2
theorem allS_pre_app {S : Nat} {a r : List Nat} : Pre S (a ++ r) ↔ (allS S a ∧ Pre S r) ∨ (Pre S a ∧ noS S r) := by
  by_cases h : ∃ x ∈ a, S.testBit x = false
  · rw [pre_P h]
    constructor
    · intro z; exact Or.inr z
    · rintro (⟨h1, -⟩ | z)
      · obtain ⟨x, hx, h2⟩ := h; rw [h1 x hx] at h2; cases h2
      · exact z
  · have h2 : allS S a := fun x hx => by
      cases hh : S.testBit x with
      | true => rfl
      | false => exact absurd ⟨x, hx, hh⟩ h
    rw [pre_F h2]
    constructor
    · intro z; exact Or.inl ⟨h2, z⟩
    · rintro (⟨-, z⟩ | ⟨-, z⟩)
      · exact z
      · exact noS_pre z
theorem cons_P {S : Nat} {a r : List Nat} (h : ∃ x ∈ a, S.testBit x = true) : Cons S (a ++ r) ↔ (Suf S a ∧ Pre S r) ∨ (Cons S a ∧ noS S r) := by
  induction a with
  | nil => obtain ⟨x, hx, -⟩ := h; simp at hx
  | cons x a ih =>
    rw [List.cons_append, cons_cons, suf_cons, cons_cons]
    cases hx : S.testBit x with
    | true => simp only [if_true]; exact allS_pre_app
    | false =>
      simp only [Bool.false_eq_true, if_false]
      apply ih
      obtain ⟨y, hy, h1⟩ := h
      rcases List.mem_cons.mp hy with rfl | hy
      · rw [hx] at h1; cases h1
      · exact ⟨y, hy, h1⟩
theorem cons_E' {S : Nat} {a r : List Nat} (h : noS S r) : Cons S (a ++ r) ↔ Cons S a := by
  rw [← cons_rev, List.reverse_append, cons_E (noS_rev.mpr h), cons_rev]
