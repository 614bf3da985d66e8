def CI (σ : Mem) (n : Nat) (G : Nat → Nat) (c : Nat) (kd : Nat → Bool) (ch : Nat → List Nat) (st : Nat → Nat) (root : Nat) : Prop := CP σ n G c c kd ch st root ∧ σ 0 10 = nI (txD kd ch 8 root).length ∧ SgAt (σ 3) (txD kd ch 8 root)
def FD (σ τ : Mem) : Prop := (∀ k, k ≠ 0 → k ≠ 3 → (k < 10 ∨ 42 < k) → τ k = σ k) ∧ ∀ f, f ≠ 3 → f ≠ 10 → τ 0 f = σ 0 f
theorem FD.tr {a b c : Mem} (h1 : FD a b) (h2 : FD b c) : FD a c := ⟨fun k q1 q2 q3 => (h2.1 k q1 q2 q3).trans (h1.1 k q1 q2 q3), fun f q1 q2 => (h2.2 f q1 q2).trans (h1.2 f q1 q2)⟩
theorem FC.fd {a b : Mem} (h : FC a b) : FD a b := ⟨fun k q1 _ q3 => h.1 k q1 q3, fun f q1 _ => h.2 f q1⟩
theorem FD.rf {a : Mem} : FD a a := ⟨fun _ _ _ _ => rfl, fun _ _ _ => rfl⟩
section
variable {σ : Mem} {n : Nat} {G : Nat → Nat} {c : Nat} {kd : Nat → Bool} {ch : Nat → List Nat} {st : Nat → Nat} {root : Nat}
/- shown anew, and its size kept -/
theorem reshow (h : CP σ n G c c kd ch st root) : ∃ τ, T_show 10 3 σ = some (nI (txD kd ch 8 root).length, τ) ∧ CI (mput τ 0 10 (nI (txD kd ch 8 root).length)) n G c kd ch st root ∧ FD σ (mput τ 0 10 (nI (txD kd ch 8 root).length)) := by
  obtain ⟨a1, a2, a3, a4, a5, a6, a7, a8, a9, a10, a11, a12⟩ := h
  obtain ⟨τ, s1, s2, s3, s4⟩ := T_show_ok a8 isT10
  refine ⟨τ, s1, ?_, ?_⟩
  · have e0 : τ 0 = σ 0 := s4 0 (by omega) (by omega) (by omega)
    have ef : ∀ f, f ≠ 10 → mput τ 0 10 (nI (txD kd ch 8 root).length) 0 f = σ 0 f := fun f hf => by rw [mput_at, if_neg (fun e => hf e.2), e0]
    have ek : ∀ k, k ≠ 0 → mput τ 0 10 (nI (txD kd ch 8 root).length) k = τ k := fun k hk => mput_ne k hk
    refine ⟨⟨by rw [ef 0 (by omega)]; exact a1, a2, a3, by rw [ef 2 (by omega)]; exact a4, a5, fun g hg => ?_, by rw [ef 3 (by omega)]; exact a7, s3.same (fun a _ => ek _ (by omega)), a9, a10, ?_, ?_⟩, by rw [mput_at, if_pos ⟨rfl, rfl⟩], by rw [ek 3 (by omega)]; exact s2⟩
    · rw [ek 1 (by omega), s4 1 (by omega) (by omega) (by omega)]; exact a6 g hg
    · exact a11.same (fun a ha => by rw [ek _ (by omega), s4 _ (by omega) (by omega) (by omega)])
    · exact a12.same (fun a ha => by rw [ek _ (by omega), s4 _ (by omega) (by omega) (by omega)])
  · refine ⟨fun k q1 q2 q3 => by rw [mput_ne k q1, s4 k q2 (by omega) (by omega)], fun f q1 q2 => by rw [mput_at, if_neg (fun e => q2 e.2), s4 0 (by omega) (by omega) (by omega)]⟩
theorem drawAll_ok (h0 : σ 0 0 = nI n) (h1 : 1 ≤ n) (hn : n ≤ 8) (h2 : σ 0 2 = nI c) (hc : c ≤ 10) (hG : ∀ g, g < c → σ 1 g = nI (G g) ∧ G g < 256) (t10 : TW σ 10) (t21 : TW σ 21) (t32 : TW σ 32) : ∃ τ kd ch st root, O_drawAll σ = some τ ∧ CI τ n G c kd ch st root ∧ FD σ τ := by
  obtain ⟨τ, kd, ch, st, root, p1, p2, p3, p4, p5⟩ := T_plant_dr isT10 t10 h1 hn
  let σ5 := mput τ 0 3 0
  have e5 : ∀ k, k ≠ 0 → σ5 k = τ k := fun k hk => mput_ne k hk
  have e5f : ∀ f, f ≠ 3 → σ5 0 f = σ 0 f := fun f hf => by show mput _ _ _ _ _ _ = _; rw [mput_at, if_neg (fun e => hf e.2), p3 0 (by omega)]
  have hF5 : FC σ σ5 := ⟨fun k q1 q2 => by rw [e5 k q1, p3 k (by omega)], e5f⟩
  have hP0 : CP σ5 n G c 0 kd ch st root := by
    refine ⟨by rw [e5f 0 (by omega)]; exact h0, h1, hn, by rw [e5f 2 (by omega)]; exact h2, hc, fun g hg => ?_, ?_, p2.same (fun a _ => e5 _ (by omega)), p4, fun r => ?_, ?_, ?_⟩
    · rw [e5 1 (by omega), p3 1 (by omega)]; exact hG g hg
    · show mput _ _ _ _ _ _ = _; rw [mput_at, if_pos ⟨rfl, rfl⟩]; rfl
    · rw [p5]
      unfold RG
      constructor
      · rintro ⟨a, b⟩
        refine ⟨a, b, fun g _ hb => ?_, by rw [Nat.zero_and]; exact cons_0 r⟩
        have : (tkB n G 0).testBit g = false := by show (0 : Nat).testBit g = false; simp
        rw [this] at hb; cases hb
      · rintro ⟨a, b, -, -⟩; exact ⟨a, b⟩
    · exact t21.same (fun a ha => by rw [e5 _ (by omega), p3 _ (by omega)])
    · exact t32.same (fun a ha => by rw [e5 _ (by omega), p3 _ (by omega)])
  have key : ∃ r, lp (fun s => O_drawAll_b1 s.1 s.2) fuel (0, σ5) = some r ∧ ∃ kd ch st root, CP r n G c c kd ch st root ∧ FC σ r := by
    refine lp_for c (fun j s => s.1 = nI j ∧ ∃ kd ch st root, CP s.2 n G c j kd ch st root ∧ FC σ s.2) _ _ 0 (by omega) ⟨rfl, kd, ch, st, root, hP0, hF5⟩ (by omega) ?_ ?_
    · intro j s hj ⟨e, kd, ch, st, root, hP, hF⟩
      obtain ⟨s1, w⟩ := s
      simp only at e hP hF
      subst e
      left
      obtain ⟨υ, kd', ch', st', root', g1, g2, g3⟩ := takeGroup_ok hP hj
      refine ⟨(nI (j + 1), υ), ?_, rfl, kd', ch', st', root', g2, hF.tr g3⟩
      unfold O_drawAll_b1
      refine ifn (by show ¬ w 0 2 ≤ nI j; rw [hP.2.2.2.1]; exact nI_ge hj (by omega)) ?_
      refine ob g1 ?_
      exact lti (nI_1 _) rfl
    · intro s ⟨e, kd, ch, st, root, hP, hF⟩
      obtain ⟨s1, w⟩ := s
      simp only at e hP hF
      subst e
      refine ⟨w, ?_, kd, ch, st, root, hP, hF⟩
      unfold O_drawAll_b1
      exact ifp (by show w 0 2 ≤ nI c; rw [hP.2.2.2.1]; exact nI_le (Nat.le_refl _) (by omega)) rfl
  obtain ⟨r, l1, kd, ch, st, root, l2, l3⟩ := key
  obtain ⟨υ, s1, s2, s3⟩ := reshow l2
  refine ⟨_, kd, ch, st, root, ?_, s2, l3.fd.tr s3⟩
  unfold O_drawAll
  rw [h0]
  refine ob p1 ?_
  refine lti rfl ?_
  refine ob l1 ?_
  refine ob s1 ?_
  refine lti rfl ?_
  refine lti rfl ?_
  exact lti rfl rfl
end
/- numbers between bounds -/
theorem M_in_eq {x lo hi : Int32} : M_in x lo hi = if x < lo then 0 else if hi < x then 0 else 1 := by
  unfold M_in lt
  by_cases a : x < lo
  · simp [a]
  · by_cases b : hi < x
    · simp [a, b]
    · simp [a, b]
theorem in_lo {x : Int32} {lo hi : Nat} (hh : hi < 2 ^ 31) (hlo : lo ≤ hi) : (∃ k, lo ≤ k ∧ k ≤ hi ∧ x = nI k) ∨ (x < nI lo ∨ nI hi < x) := by
  by_cases a : x < nI lo
  · exact Or.inr (Or.inl a)
  · by_cases b : nI hi < x
    · exact Or.inr (Or.inr b)
    · left
      have h0 : ¬ x < 0 := fun q => a (Int32.lt_of_lt_of_le q (nI_pos' (by omega)))
      obtain ⟨k, k1, k2⟩ := nI_of h0
      subst k2
      refine ⟨k, ?_, ?_, rfl⟩
      · exact Nat.le_of_not_lt (fun q => a (nI_lt q (by omega)))
      · exact Nat.le_of_not_lt (fun q => b (nI_lt q k1))
