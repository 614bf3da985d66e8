def PR (P Q : Nat → List Nat → Prop) (s u : Nat → Nat) : List Nat → List Nat → Prop
  | [], [] => True
  | a :: A, b :: B => ((∀ r, P a r ↔ Q b r) ∧ s a = u b) ∧ PR P Q s u A B
  | _, _ => False
section
variable {P Q : Nat → List Nat → Prop} {s u : Nat → Nat}
theorem PR.app : ∀ {A B A2 B2 : List Nat}, PR P Q s u A B → PR P Q s u A2 B2 → PR P Q s u (A ++ A2) (B ++ B2)
  | [], [], _, _, _, h => h
  | _ :: _, _ :: _, _, _, h1, h2 => ⟨h1.1, PR.app h1.2 h2⟩
  | [], _ :: _, _, _, h, _ => h.elim
  | _ :: _, [], _, _, h, _ => h.elim
theorem PR.rev : ∀ {A B : List Nat}, PR P Q s u A B → PR P Q s u A.reverse B.reverse
  | [], [], h => h
  | a :: A, b :: B, h => by
    rw [List.reverse_cons, List.reverse_cons]
    exact (PR.rev h.2).app ⟨h.1, trivial⟩
  | [], _ :: _, h => h.elim
  | _ :: _, [], h => h.elim
theorem PR.map : ∀ {A B : List Nat}, PR P Q s u A B → A.map s = B.map u
  | [], [], _ => rfl
  | a :: A, b :: B, h => by rw [List.map_cons, List.map_cons, h.1.2, PR.map h.2]
  | [], _ :: _, h => h.elim
  | _ :: _, [], h => h.elim
theorem PR.seq : ∀ {A B : List Nat} {r : List Nat}, PR P Q s u A B → (SeqR P A r ↔ SeqR Q B r)
  | [], [], r, _ => Iff.rfl
  | a :: A, b :: B, r, h => by
    constructor
    · rintro ⟨x, y, e, h1, h2⟩; exact ⟨x, y, e, (h.1.1 x).mp h1, (PR.seq h.2).mp h2⟩
    · rintro ⟨x, y, e, h1, h2⟩; exact ⟨x, y, e, (h.1.1 x).mpr h1, (PR.seq h.2).mpr h2⟩
  | [], _ :: _, _, h => h.elim
  | _ :: _, [], _, h => h.elim
theorem PR.sym : ∀ {A B : List Nat}, PR P Q s u A B → PR Q P u s B A
  | [], [], h => h
  | _ :: _, _ :: _, h => ⟨⟨fun r => (h.1.1 r).symm, h.1.2.symm⟩, PR.sym h.2⟩
  | [], _ :: _, h => h.elim
  | _ :: _, [], h => h.elim
theorem PR.len {A B : List Nat} (h : PR P Q s u A B) : A.length = B.length := by
  have := congrArg List.length h.map; simpa using this
theorem PR.perm {M C : List Nat} (hp : M.Perm C) : ∀ {C2 : List Nat}, PR P Q s u C C2 → ∃ M2 : List Nat, M2.Perm C2 ∧ PR P Q s u M M2 := by
  induction hp with
  | nil => intro C2 h; exact ⟨C2, List.Perm.refl _, h⟩
  | cons x p ih =>
    intro C2 h
    rcases C2 with _ | ⟨b, B⟩
    · exact h.elim
    · obtain ⟨M2, h1, h2⟩ := ih h.2
      exact ⟨b :: M2, h1.cons b, h.1, h2⟩
  | swap x y l =>
    intro C2 h
    rcases C2 with _ | ⟨b, _ | ⟨b2, B⟩⟩
    · exact h.elim
    · exact h.2.elim
    · exact ⟨b2 :: b :: B, List.Perm.swap b b2 B, h.2.1, h.1, h.2.2⟩
  | trans p q ih1 ih2 =>
    intro C2 h
    obtain ⟨M2, h1, h2⟩ := ih2 h
    obtain ⟨M3, h3, h4⟩ := ih1 h2
    exact ⟨M3, h3.trans h1, h4⟩
theorem PR.ord {k : Bool} {A B : List Nat} {r : List Nat} (h : PR P Q s u A B) : (∃ L, OrdR k A L ∧ SeqR P L r) → ∃ L, OrdR k B L ∧ SeqR Q L r := by
  rintro ⟨L, hL, hs⟩
  unfold OrdR at hL ⊢
  by_cases c : k = true
  · rw [if_pos c] at hL
    simp only [c, if_true]
    rcases hL with e | e
    · subst e; exact ⟨B, Or.inl rfl, h.seq.mp hs⟩
    · subst e; exact ⟨B.reverse, Or.inr rfl, h.rev.seq.mp hs⟩
  · rw [if_neg c] at hL
    simp only [c, if_false, Bool.false_eq_true]
    obtain ⟨M, h1, h2⟩ := PR.perm hL h
    exact ⟨M, h1, h2.seq.mp hs⟩
theorem orL_map {A B : List Nat} (h : A.map s = B.map u) : orL s A = orL u B := by
  have : ∀ (f : Nat → Nat) (L : List Nat), orL f L = (L.map f).foldr (· ||| ·) 0 := fun f L => by
    induction L with
    | nil => rfl
    | cons a L ih => show f a ||| orL f L = _; rw [ih]; rfl
  rw [this, this, h]
theorem Dj_map {A B : List Nat} (h : A.map s = B.map u) (hd : Dj s A) : Dj u B := by
  unfold Dj at hd ⊢
  have : (A.map s).Pairwise (fun a b => a &&& b = 0) := List.pairwise_map.mpr hd
  rw [h] at this
  exact List.pairwise_map.mp this
theorem getD_map {f : Nat → Nat} {A : List Nat} {i : Nat} (h : i < A.length) : f (A.getD i 0) = (A.map f).getD i 0 := by
  rw [List.getD_eq_getElem?_getD, List.getD_eq_getElem?_getD, List.getElem?_map, List.getElem?_eq_getElem h]; rfl
theorem CanL_map {k : Bool} {A B : List Nat} (h : A.map s = B.map u) (h1 : 1 ≤ A.length) (hc : CanL k s A) : CanL k u B := by
  have hl : A.length = B.length := by have := congrArg List.length h; simpa using this
  unfold CanL at hc ⊢
  by_cases c : k = true
  · rw [if_pos c] at hc ⊢
    have e1 := getD_map (f := s) (A := A) (i := 0) (by omega)
    have e2 := getD_map (f := s) (A := A) (i := A.length - 1) (by omega)
    have e3 := getD_map (f := u) (A := B) (i := 0) (by omega)
    have e4 := getD_map (f := u) (A := B) (i := B.length - 1) (by omega)
    rw [e1, e2, h] at hc
    rw [e3, e4, ← hl]; exact hc
  · rw [if_neg c] at hc ⊢
    have : (A.map s).Pairwise (fun a b => lst a < lst b) := List.pairwise_map.mpr hc
    rw [h] at this
    exact (List.pairwise_map (f := u) (R := fun a b => lst a < lst b)).mp this
end
theorem OrdR_tr {k : Bool} {A B L : List Nat} (h : OrdR k A B) : OrdR k A L ↔ OrdR k B L := by
  unfold OrdR at h ⊢
  by_cases c : k = true
  · rw [if_pos c] at h
    rw [if_pos c, if_pos c]
    rcases h with e | e
    · subst e; exact Iff.rfl
    · subst e
      constructor
      · rintro (q | q)
        · right; rw [q, List.reverse_reverse]
        · exact Or.inl q
      · rintro (q | q)
        · exact Or.inr q
        · left; rw [q, List.reverse_reverse]
  · rw [if_neg c] at h
    rw [if_neg c, if_neg c]
    exact ⟨fun q => q.trans h.symm, fun q => q.trans h⟩
theorem lst_bit : ∀ m, m < 256 → m ≠ 0 → m.testBit (lst m) = true := by decide +kernel
theorem lst_inj2 {kd : Nat → Bool} {ch : Nat → List Nat} {st : Nat → Nat} {N : Nat} (h8 : 8 ≤ N) (hw : Wf kd ch st N) (hs : ∀ c ∈ ch N, st c < 256) : ∀ c ∈ ch N, ∀ e ∈ ch N, lst (st c) = lst (st e) → c = e := by
  intro c hc e he h
  obtain ⟨-, -, -, gD, gW⟩ := (Wf_node h8).mp hw
  refine Dj_uniq gD hc he (fun h0 => ?_)
  have h1 := lst_bit _ (hs c hc) (Wf_ne0 c (gW c hc))
  have h2 := lst_bit _ (hs e he) (Wf_ne0 e (gW e he))
  rw [← h] at h2
  exact and0_iff.mp h0 _ h1 h2
