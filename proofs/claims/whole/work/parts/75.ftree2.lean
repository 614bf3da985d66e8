def enc (st : Nat → Nat) : Nat ⊕ Nat → Nat := Sum.elim st (fun s => 1000 + s)
def txT (kd : Nat → Bool) (ch : Nat → List Nat) (D : Nat) : Nat ⊕ Nat → List Nat := Sum.elim (txD kd ch D) (fun s => [s])
def ndT (ch : Nat → List Nat) (D : Nat) : Nat ⊕ Nat → List Nat := Sum.elim (ndD ch D) (fun _ => [])
def NdA (σ : Mem) (kd : Nat → Bool) (ch : Nat → List Nat) (st : Nat → Nat) (L : List Nat) : Prop := ∀ i, i < L.length → σ 49 i = nI (st (L.getD i 0)) ∧ σ 50 i = (if kd (L.getD i 0) = true then 1 else 0) ∧ σ 51 i = nI (ch (L.getD i 0)).length ∧ PtF (σ 52) st i (ch (L.getD i 0)).length (fun x => (ch (L.getD i 0)).getD x 0)
def okT (kd : Nat → Bool) (ch : Nat → List Nat) (st : Nat → Nat) (D root : Nat) (x : Nat ⊕ Nat) : Prop := (∀ id, x = .inl id → WfD kd ch st D id ∧ st id < 256 ∧ (8 ≤ id → id ∈ ndD ch D root)) ∧ ∀ s, x = .inr s → s < 200
def FTI (σ0 σ : Mem) (kd : Nat → Bool) (ch : Nat → List Nat) (st : Nat → Nat) (D root : Nat) (T N : List Nat) (R : List (Nat ⊕ Nat)) : Prop := PubM σ0 σ ∧ σ 48 = σ0 48 ∧ σ 54 = σ0 54 ∧ σ 43 12 = nI T.length ∧ SgAt (σ 53) T ∧ σ 43 7 = nI N.length ∧ NdA σ kd ch st N ∧ SgAt (σ 55) (R.map (enc st)) ∧ T ++ R.reverse.flatMap (txT kd ch D) = txD kd ch D root ∧ N ++ R.reverse.flatMap (ndT ch D) = ndD ch D root ∧ ∀ x ∈ R, okT kd ch st D root x
theorem tx_pos {kd : Nat → Bool} {ch : Nat → List Nat} {st : Nat → Nat} {D root : Nat} {x : Nat ⊕ Nat} (h : okT kd ch st D root x) : 1 ≤ (txT kd ch D x).length := by
  cases x with
  | inr s => simp [txT]
  | inl id =>
    have hw := (h.1 id rfl).1
    cases D with
    | zero => exact absurd hw (by simp [WfD])
    | succ D =>
      show 1 ≤ (txD kd ch (D + 1) id).length
      unfold txD
      split <;> simp
theorem R_len {kd : Nat → Bool} {ch : Nat → List Nat} {st : Nat → Nat} {D root : Nat} : ∀ {R : List (Nat ⊕ Nat)}, (∀ x ∈ R, okT kd ch st D root x) → R.length ≤ (R.flatMap (txT kd ch D)).length := by
  intro R
  induction R with
  | nil => intro _; simp
  | cons x R ih =>
    intro h
    have h1 := ih (fun y hy => h y (by simp [hy]))
    have h2 := tx_pos (h x (by simp))
    rw [List.flatMap_cons, List.length_append, List.length_cons]; omega
theorem many_one : ∀ m, m < 256 → (pc8 m = 1 ↔ ∃ k, k < 8 ∧ m = 2 ^ k) := by decide +kernel
theorem lst_pow : ∀ k, k < 8 → lst (2 ^ k) = k ∧ 2 ^ k < 256 ∧ 2 ^ k ≠ 0 := by decide +kernel
theorem PubM.of {σ τ : Mem} (h43 : ∀ i, i = 0 ∨ i = 1 ∨ i = 22 ∨ i = 29 → τ 43 i = σ 43 i) (h : ∀ k, k = 44 ∨ k = 60 ∨ k = 61 ∨ k = 62 ∨ k = 63 ∨ k = 64 → τ k = σ k) : PubM σ τ := ⟨h43 0 (by simp), h43 1 (by simp), h43 22 (by simp), h43 29 (by simp), h⟩
/-- a sign is shown: one task less -/
theorem ft_sign {σ0 σ : Mem} {kd : Nat → Bool} {ch : Nat → List Nat} {st : Nat → Nat} {D root : Nat} {T N : List Nat} {R : List (Nat ⊕ Nat)} {x : Nat ⊕ Nat} {s : Nat} (h : FTI σ0 σ kd ch st D root T N (R ++ [x])) (hT : T.length < 40) (hx : txT kd ch D x = [s]) (hnd : ndT ch D x = []) : ∃ τ, M_shows (nI s) σ = some τ ∧ FTI σ0 τ kd ch st D root (T ++ [s]) N R := by
  obtain ⟨h1, h2, h3, h4, h5, h6, h7, h8, h9, h10, h11⟩ := h
  obtain ⟨τ, e1, e2, e3, e4, e5⟩ := M_shows_eq (x := s) h4 hT h5
  refine ⟨τ, e1, h1.tr (PubM.of (fun i hi => e4 i (by omega)) (fun k hk => e5 k (by omega) (by omega))), by rw [e5 48 (by decide) (by decide)]; exact h2, by rw [e5 54 (by decide) (by decide)]; exact h3, e2, e3, by rw [e4 7 (by decide)]; exact h6, ?_, ?_, ?_, ?_, fun y hy => h11 y (by simp [hy])⟩
  · intro i hi
    rw [e5 49 (by decide) (by decide), e5 50 (by decide) (by decide), e5 51 (by decide) (by decide), e5 52 (by decide) (by decide)]
    exact h7 i hi
  · rw [e5 55 (by decide) (by decide)]
    rw [List.map_append] at h8
    exact h8.pop.1
  · rw [← h9, List.reverse_append]
    simp [hx]
  · rw [← h10, List.reverse_append]
    simp [hnd]
