section
variable {σ : Mem} {n : Nat} {L : List Nat} {nx : Nat → Nat} {x1 x2 : Nat}
theorem M_spansFrom_ok (hn : n ≤ 8) (h0 : σ 43 0 = nI n) (hG : GoS n L (σ 46)) (hnx : ∀ d i, (nx d).testBit i = true ↔ i < n ∧ d.testBit i = false ∧ okS (L.map (fun g => g &&& fullM n)) d i) (hx1 : x1 < n) (hx2 : x2 < n) (hne : x1 ≠ x2) {E : Nat → Prop} (hE : MMx (σ 43 20) (σ 43 21) E) : ∃ τ, M_spansFrom (nI x1) (nI x2) σ = some τ ∧ KSp σ τ ∧ MMx (τ 43 20) (τ 43 21) (fun s => E s ∨ GpN n L x1 x2 s) := by
  have hfull := full_lt hn
  have hall : ∀ ρ, KSp σ ρ → M_all ρ = nI (fullM n) := fun ρ h => M_all_eq (by rw [h.2 0 (by decide) (by decide)]; exact h0) hn
  have l1 : ∃ r, lp (fun s => M_spansFrom_b1 s.1 s.2) fuel (0, σ) = some r ∧ (KSp σ r ∧ r 43 = σ 43 ∧ ∀ q, q < fullM n + 1 → r 59 q = 0) := by
    refine lp_for (fullM n + 1) (fun j s => s.1 = nI j ∧ KSp σ s.2 ∧ s.2 43 = σ 43 ∧ ∀ q, q < j → s.2 59 q = 0) _ _ 0 (by omega) ⟨rfl, KSp.rf, rfl, fun q hq => by omega⟩ (by omega) ?_ ?_
    · rintro j ⟨v1, ρ⟩ hj ⟨e1, e2, e3, e4⟩
      have e1 : v1 = nI j := e1
      subst e1
      have e2 : KSp σ ρ := e2
      have e4 : ∀ q, q < j → ρ 59 q = 0 := e4
      left
      refine ⟨(nI (j + 1), mput ρ 59 j 0), ?_, rfl, e2.p59, ?_, fun q hq => ?_⟩
      · show M_spansFrom_b1 (nI j) ρ = _
        unfold M_spansFrom_b1
        refine ifn ?_ ?_
        · rw [hall ρ e2]; exact nI_nlt (by omega) (by omega)
        refine ob (a := mput ρ 59 j 0) (wrT (N := 256) rfl (by omega) (by omega)) ?_
        exact lti (nI_1 _) rfl
      · show mput ρ 59 j 0 43 = σ 43
        rw [mput_ne 43 (by decide)]; exact e3
      · show mput ρ 59 j 0 59 q = 0
        rw [mput_at]
        by_cases c : q = j
        · rw [if_pos ⟨rfl, c⟩]
        · rw [if_neg (fun z => c z.2)]; exact e4 q (by omega)
    · rintro ⟨v1, ρ⟩ ⟨e1, e2, e3, e4⟩
      have e1 : v1 = nI (fullM n + 1) := e1
      subst e1
      have e2 : KSp σ ρ := e2
      refine ⟨ρ, ?_, e2, e3, e4⟩
      show M_spansFrom_b1 (nI (fullM n + 1)) ρ = _
      unfold M_spansFrom_b1
      exact ifp (by rw [hall ρ e2]; exact nI_lt (by omega) (by omega)) rfl
  obtain ⟨σ3, a1, a2, a3, a4⟩ := l1
  have l2 : ∃ r, lp (fun s => M_spansFrom_b4 (nI x1) (nI x2) s.1 s.2) fuel (0, σ3) = some r ∧ (KSp σ r ∧ MMx (r 43 20) (r 43 21) (fun s => E s ∨ ∃ m' i, m' < fullM n ∧ Occ n L m' x2 ∧ SpN n L x1 x2 m' i ∧ s = pc8 m' - i)) := by
    refine lp_for (fullM n) (fun m s => s.1 = nI m ∧ KSp σ s.2 ∧ WAN n L x1 x2 (s.2 59) m 0 ∧ MMx (s.2 43 20) (s.2 43 21) (fun s => E s ∨ ∃ m' i, m' < m ∧ Occ n L m' x2 ∧ SpN n L x1 x2 m' i ∧ s = pc8 m' - i)) _ _ 0 (by omega) ⟨rfl, a2, fun q hq => ?_, ?_⟩ (by omega) ?_ ?_
    · refine ⟨0, by decide, by show σ3 59 q = nI 0; rw [a4 q (by omega)]; rfl, fun i => ?_⟩
      rw [Nat.zero_testBit]
      constructor
      · intro e; cases e
      · rintro ⟨m', k, u, -⟩; omega
    · show MMx (σ3 43 20) (σ3 43 21) _
      rw [a3]
      exact hE.congr (fun s => ⟨fun h => Or.inl h, fun h => h.resolve_right (fun ⟨m', i, hi, _⟩ => by omega)⟩)
    · rintro m ⟨v1, ρ⟩ hm ⟨e1, e2, e3, e4⟩
      have e1 : v1 = nI m := e1
      subst e1
      have e2 : KSp σ ρ := e2
      have e3 : WAN n L x1 x2 (ρ 59) m 0 := e3
      have e4 : MMx (ρ 43 20) (ρ 43 21) (fun s => E s ∨ ∃ m' i, m' < m ∧ Occ n L m' x2 ∧ SpN n L x1 x2 m' i ∧ s = pc8 m' - i) := e4
      left
      obtain ⟨ρ1, b1, b2, b3, b4⟩ := sp_in hn h0 hG hnx hx1 hx2 hne hm e2 e3
      rw [← b3] at e4
      obtain ⟨bb, w1, w2, w3⟩ := b4 m (by omega)
      have w3 : ∀ i, bb.testBit i = true ↔ SpN n L x1 x2 m i := fun i => by
        rw [w3, ← WAN.own hn hnx hne (j := n)]
        constructor
        · rintro ⟨m', k, u1, u2, u3⟩
          exact ⟨m', k, by omega, u2, u3⟩
        · rintro ⟨m', k, u1, u2, u3⟩
          exact ⟨m', k, by omega, u2, u3⟩
      obtain ⟨ρ2, c1, c2, c3, c4⟩ := sp_out hn hG hx2 hm b2 w1 w2 w3 e4
      refine ⟨(nI (m + 1), ρ2), ?_, rfl, c2, ?_, c4.congr (fun s => ?_)⟩
      · show M_spansFrom_b4 (nI x1) (nI x2) (nI m) ρ = _
        unfold M_spansFrom_b4
        refine ifn ?_ ?_
        · rw [hall ρ e2]; exact nI_ge hm (by omega)
        refine ob b1 ?_
        refine ob c1 ?_
        exact lti (nI_1 _) rfl
      · show WAN n L x1 x2 (ρ2 59) (m + 1) 0
        rw [c3]; exact b4
      · constructor
        · rintro ((h | ⟨m', i, u1, u2⟩) | ⟨i, u⟩)
          · exact Or.inl h
          · exact Or.inr ⟨m', i, by omega, u2⟩
          · exact Or.inr ⟨m, i, by omega, u⟩
        · rintro (h | ⟨m', i, u1, u2⟩)
          · exact Or.inl (Or.inl h)
          · by_cases z : m' = m
            · subst z; exact Or.inr ⟨i, u2⟩
            · exact Or.inl (Or.inr ⟨m', i, by omega, u2⟩)
    · rintro ⟨v1, ρ⟩ ⟨e1, e2, e3, e4⟩
      have e1 : v1 = nI (fullM n) := e1
      subst e1
      have e2 : KSp σ ρ := e2
      refine ⟨ρ, ?_, e2, e4⟩
      show M_spansFrom_b4 (nI x1) (nI x2) (nI (fullM n)) ρ = _
      unfold M_spansFrom_b4
      exact ifp (by rw [hall ρ e2]; exact nI_le (Nat.le_refl _) (by omega)) rfl
  obtain ⟨τ, b1, b2, b3⟩ := l2
  refine ⟨τ, ?_, b2, b3.congr (fun s => ?_)⟩
  · unfold M_spansFrom
    refine ob a1 ?_
    exact ob b1 rfl
  · rw [gp_iff hn hnx]
end
theorem M_apartOf_ok {μ : Mem} {n : Nat} {G : Nat → Nat} {c : Nat} (h : MI μ n G c) {x1 x2 : Nat} (hx1 : x1 < n) (hx2 : x2 < n) (hne : x1 ≠ x2) (x3 : Int32) : ∃ τ lo hi, M_apartOf (nI x1) (nI x2) x3 μ = some ((if x3 = 0 then lo else hi), τ) ∧ PubM μ τ ∧ MMx lo hi (fun s => GpN n ((List.range 11).map (nget G (tkB n G c) 0)) x1 x2 s ∨ GpN n ((List.range 11).map (nget G (tkB n G c) 0)) x2 x1 s) := by
  have hn := h.2.2.1
  obtain ⟨μ1, e1, e2, e3⟩ := M_findsGo_eq h
  have hnx := fun d i => nxOf_bit n G (tkB n G c) 0 d i
  have hG : GoS n ((List.range 11).map (nget G (tkB n G c) 0)) (μ1 46) := go_sem hn hnx e3
  have hM1 := e2.mi h
  have k0 : KSp μ1 (mput (mput μ1 43 20 (-1)) 43 21 (-1)) := KSp.rf.p20.p21
  have h0 : mput (mput μ1 43 20 (-1)) 43 21 (-1) 43 0 = nI n := by rw [k0.2 0 (by decide) (by decide)]; exact hM1.1
  have g0 : mput (mput μ1 43 20 (-1)) 43 21 (-1) 46 = μ1 46 := k0.1 46 (by decide) (by decide)
  obtain ⟨μ2, f1, f2, f3⟩ := M_spansFrom_ok (σ := mput (mput μ1 43 20 (-1)) 43 21 (-1)) (E := fun _ => False) hn h0 (by rw [g0]; exact hG) hnx hx1 hx2 hne (by
    refine Or.inl ⟨?_, ?_, fun _ q => q⟩
    · rw [mput_at, if_neg (fun q => absurd q.2 (by decide)), mput_at, if_pos ⟨rfl, rfl⟩]
    · rw [mput_at, if_pos ⟨rfl, rfl⟩])
  obtain ⟨μ3, p1, p2, p3⟩ := M_spansFrom_ok (σ := μ2) hn (by rw [f2.2 0 (by decide) (by decide)]; exact h0) (by rw [f2.1 46 (by decide) (by decide), g0]; exact hG) hnx hx2 hx1 (Ne.symm hne) f3
  have kk := (k0.tr f2).tr p2
  refine ⟨μ3, μ3 43 20, μ3 43 21, ?_, e2.tr ⟨kk.2 0 (by decide) (by decide), kk.2 1 (by decide) (by decide), kk.2 22 (by decide) (by decide), kk.2 29 (by decide) (by decide), fun k hk => kk.1 k (by omega) (by omega)⟩, p3.congr (fun s => ?_)⟩
  · unfold M_apartOf
    refine ob e1 ?_
    refine lti rfl ?_
    refine lti rfl ?_
    refine ob f1 ?_
    refine ob p1 ?_
    exact lti rfl rfl
  · constructor
    · rintro ((q | q) | q)
      · exact q.elim
      · exact Or.inl q
      · exact Or.inr q
    · rintro (q | q)
      · exact Or.inl (Or.inr q)
      · exact Or.inr q
