theorem CI.fr {σ τ : Mem} {n : Nat} {G : Nat → Nat} {c : Nat} {kd : Nat → Bool} {ch : Nat → List Nat} {st : Nat → Nat} {root : Nat} (h : CI σ n G c kd ch st root) (hf : ∀ f, f = 0 ∨ f = 2 ∨ f = 3 ∨ f = 10 → τ 0 f = σ 0 f) (hk : ∀ k, k = 1 ∨ k = 3 ∨ (10 ≤ k ∧ k ≤ 42) → τ k = σ k) : CI τ n G c kd ch st root := by
  obtain ⟨⟨a1, a2, a3, a4, a5, a6, a7, a8, a9, a10, a11, a12⟩, b1, b2⟩ := h
  refine ⟨⟨by rw [hf 0 (by omega)]; exact a1, a2, a3, by rw [hf 2 (by omega)]; exact a4, a5, fun g hg => by rw [hk 1 (by omega)]; exact a6 g hg, by rw [hf 3 (by omega)]; exact a7, a8.same (fun a ha => hk _ (by omega)), a9, a10, a11.same (fun a ha => hk _ (by omega)), a12.same (fun a ha => hk _ (by omega))⟩, by rw [hf 10 (by omega)]; exact b1, by rw [hk 3 (by omega)]; exact b2⟩
theorem CMx.fr {σ τ μ ν : Mem} (h : CMx σ μ) (hf : ∀ f, f = 0 ∨ f = 2 ∨ f = 3 ∨ f = 10 → τ 0 f = σ 0 f) (hk : ∀ k, k = 1 ∨ k = 3 ∨ (10 ≤ k ∧ k ≤ 42) → τ k = σ k) (hm : ν 43 0 = μ 43 0 ∧ ν 43 1 = μ 43 1) (hm2 : ν 44 = μ 44) : CMx τ ν := by
  obtain ⟨n, G, c, ⟨kd, ch, st, root, hC⟩, hM⟩ := h
  exact ⟨n, G, c, ⟨kd, ch, st, root, hC.fr hf hk⟩, hM.same hm hm2⟩
def Td (σ μ : Mem) (L : Nat) (T : Nat → Nat) : Prop := σ 0 5 = nI L ∧ L ≤ 8 ∧ μ 43 22 = nI L ∧ ∀ i, i < L → T i < 256 ∧ σ 2 i = nI (T i) ∧ μ 60 i = nI (T i)
def Tdx (σ μ : Mem) : Prop := ∃ L T, Td σ μ L T
def Fnd (σ μ : Mem) : Prop := σ 0 6 = μ 43 29
/- what a call on what is told keeps: the sheets and the finding -/
def KS (σ τ : Mem) : Prop := (∀ k, k = 6 ∨ k = 7 ∨ k = 8 ∨ k = 9 → τ k = σ k) ∧ τ 0 6 = σ 0 6
def KT (μ ν : Mem) : Prop := (∀ k, k = 61 ∨ k = 62 ∨ k = 63 ∨ k = 64 → ν k = μ k) ∧ ν 43 29 = μ 43 29
theorem Td.keep {σ τ μ ν : Mem} {L : Nat} {T : Nat → Nat} (h : Td σ μ L T) (hc : KC σ τ) (hm : KM μ ν) : Td τ ν L T := by
  obtain ⟨a1, a2, a3, a4⟩ := h
  refine ⟨by rw [hc.2.1]; exact a1, a2, by rw [hm.2.1]; exact a3, fun i hi => ?_⟩
  rw [hc.1 2 (by omega), hm.1 60 (by omega)]; exact a4 i hi
theorem s_type {σ μ : Mem} (h : CMx σ μ) (ht : Tdx σ μ) (x : Int32) : ∃ a σ' μ', O_type x σ = some (a, σ') ∧ M_type x μ = some (a, μ') ∧ CMx σ' μ' ∧ Tdx σ' μ' ∧ KS σ σ' ∧ KT μ μ' := by
  have ht0 := ht
  obtain ⟨L, T, a1, a2, a3, a4⟩ := ht
  rcases set_cases x with ⟨k, hk, rfl, s1, s2⟩ | ⟨s1, s2⟩
  · have hb : (if nI k < 0 then true else if nI k < 256 then false else true : Bool) = false := by
      rw [if_neg (nI_pos (by omega))]; exact if_pos (nI_lt (b := 256) hk (by omega))
    by_cases c : L = 8
    · subst c
      refine ⟨-4, σ, μ, ?_, ?_, h, ht0, ⟨fun _ _ => rfl, rfl⟩, ⟨fun _ _ => rfl, rfl⟩⟩
      · unfold O_type
        refine lti hb ?_
        refine ifn (by decide) ?_
        exact ifn (by rw [a1]; decide) rfl
      · unfold M_type
        refine ifn (by rw [s2]; decide) ?_
        exact ifp (by rw [a3]; rfl) rfl
    · let σ' := mput (mput σ 2 L (nI k)) 0 5 (nI (L + 1))
      let μ' := mput (mput μ 60 L (nI k)) 43 22 (nI (L + 1))
      have e1 : ∀ j, j ≠ 0 → j ≠ 2 → σ' j = σ j := fun j q0 q1 => by show mput _ _ _ _ _ = _; rw [mput_ne _ q0, mput_ne _ q1]
      have e1f : ∀ f, f ≠ 5 → σ' 0 f = σ 0 f := fun f hf => by show mput _ _ _ _ _ _ = _; rw [mput_at, if_neg (fun q => hf q.2), mput_ne _ (by omega)]
      have e2 : ∀ j, j ≠ 43 → j ≠ 60 → μ' j = μ j := fun j q0 q1 => by show mput _ _ _ _ _ = _; rw [mput_ne _ q0, mput_ne _ q1]
      have e2f : ∀ f, f ≠ 22 → μ' 43 f = μ 43 f := fun f hf => by show mput _ _ _ _ _ _ = _; rw [mput_at, if_neg (fun q => hf q.2), mput_ne _ (by omega)]
      have s5 : σ' 0 5 = nI (L + 1) := by show mput _ _ _ _ _ _ = _; rw [mput_at, if_pos ⟨rfl, rfl⟩]
      have s22 : μ' 43 22 = nI (L + 1) := by show mput _ _ _ _ _ _ = _; rw [mput_at, if_pos ⟨rfl, rfl⟩]
      refine ⟨nI (L + 1), σ', μ', ?_, ?_, h.fr (fun f hf => e1f f (by omega)) (fun j hj => e1 j (by omega) (by omega)) ⟨e2f 0 (by omega), e2f 1 (by omega)⟩ (e2 44 (by omega) (by omega)), ⟨L + 1, uf T L k, s5, by omega, s22, fun i hi => ?_⟩, ⟨fun j hj => e1 j (by omega) (by omega), e1f 6 (by omega)⟩, ⟨fun j hj => e2 j (by omega) (by omega), e2f 29 (by omega)⟩⟩
      · unfold O_type
        refine lti hb ?_
        refine ifn (by decide) ?_
        refine ifp (by rw [a1]; exact nI_lt (b := 8) (by omega) (by omega)) ?_
        refine ob (a := mput σ 2 L (nI k)) (by rw [a1]; exact wrT (N := 8) rfl (by omega) (by omega)) ?_
        refine lti (b := σ') (by rw [mput_ne _ (by omega), a1, nI_1]) ?_
        rw [s5]
      · unfold M_type
        refine ifn (by rw [s2]; decide) ?_
        refine ifn (by rw [a3]; exact nI_ne (b := 8) (by omega) (by omega) c) ?_
        refine ob (a := mput μ 60 L (nI k)) (by rw [a3]; exact wrT (N := 8) rfl (by omega) (by omega)) ?_
        refine lti (b := μ') (by rw [mput_ne _ (by omega), a3, nI_1]) ?_
        rw [s22]
      · have q1 : σ' 2 = upd (σ 2) L (nI k) := by show mput _ _ _ _ _ = _; rw [mput_ne _ (by omega), mput_2]
        have q2 : μ' 60 = upd (μ 60) L (nI k) := by show mput _ _ _ _ _ = _; rw [mput_ne _ (by omega), mput_2]
        rw [q1, q2]
        by_cases q : i = L
        · subst q; rw [uf_s, pk_us, pk_us]; exact ⟨hk, rfl, rfl⟩
        · rw [uf_n q, pk_un q, pk_un q]; exact a4 i (by omega)
  · refine ⟨-2, σ, μ, ?_, ?_, h, ht0, ⟨fun _ _ => rfl, rfl⟩, ⟨fun _ _ => rfl, rfl⟩⟩
    · unfold O_type
      refine lti (b := true) ?_ (ifp rfl rfl)
      rw [O_isSet_eq] at s1
      by_cases q0 : x < 0
      · exact if_pos q0
      · rw [if_neg q0] at s1 ⊢
        by_cases q1 : (256 : Int32) ≤ x
        · exact if_neg (Int32.not_lt.mpr q1)
        · rw [if_neg q1] at s1; cases s1
    · unfold M_type; exact ifp s2 rfl
theorem s_wipe {σ μ : Mem} (h : CMx σ μ) (ht : Tdx σ μ) : ∃ a σ' μ', O_wipe σ = (a, σ') ∧ M_wipe μ = (a, μ') ∧ CMx σ' μ' ∧ Tdx σ' μ' ∧ KS σ σ' ∧ KT μ μ' := by
  obtain ⟨L, T, a1, a2, a3, a4⟩ := ht
  have e1 : ∀ j, j ≠ 0 → mput σ 0 5 0 j = σ j := fun j q => mput_ne j q
  have e1f : ∀ f, f ≠ 5 → mput σ 0 5 0 0 f = σ 0 f := fun f hf => by rw [mput_at, if_neg (fun q => hf q.2)]
  have e2 : ∀ j, j ≠ 43 → mput μ 43 22 0 j = μ j := fun j q => mput_ne j q
  have e2f : ∀ f, f ≠ 22 → mput μ 43 22 0 43 f = μ 43 f := fun f hf => by rw [mput_at, if_neg (fun q => hf q.2)]
  refine ⟨nI L, mput σ 0 5 0, mput μ 43 22 0, ?_, ?_, h.fr (fun f hf => e1f f (by omega)) (fun j hj => e1 j (by omega)) ⟨e2f 0 (by omega), e2f 1 (by omega)⟩ (e2 44 (by omega)), ⟨0, T, by rw [mput_at, if_pos ⟨rfl, rfl⟩]; rfl, by omega, by rw [mput_at, if_pos ⟨rfl, rfl⟩]; rfl, fun i hi => by omega⟩, ⟨fun j hj => e1 j (by omega), e1f 6 (by omega)⟩, ⟨fun j hj => e2 j (by omega), e2f 29 (by omega)⟩⟩
  · unfold O_wipe; exact lti a1 (lti rfl rfl)
  · unfold M_wipe; exact lti a3 (lti rfl rfl)
theorem s_undo {σ μ : Mem} (h : CMx σ μ) (ht : Tdx σ μ) : ∃ a σ' μ', O_undo σ = (a, σ') ∧ M_undo μ = (a, μ') ∧ CMx σ' μ' ∧ Tdx σ' μ' ∧ KS σ σ' ∧ KT μ μ' := by
  have ht0 := ht
  obtain ⟨L, T, a1, a2, a3, a4⟩ := ht
  by_cases c : L = 0
  · subst c
    refine ⟨-3, σ, μ, ?_, ?_, h, ht0, ⟨fun _ _ => rfl, rfl⟩, ⟨fun _ _ => rfl, rfl⟩⟩
    · unfold O_undo; exact ifn (by rw [a1]; decide) rfl
    · unfold M_undo; exact ifp (by rw [a3]; rfl) rfl
  · have e1 : ∀ j, j ≠ 0 → mput σ 0 5 (nI (L - 1)) j = σ j := fun j q => mput_ne j q
    have e1f : ∀ f, f ≠ 5 → mput σ 0 5 (nI (L - 1)) 0 f = σ 0 f := fun f hf => by rw [mput_at, if_neg (fun q => hf q.2)]
    have e2 : ∀ j, j ≠ 43 → mput μ 43 22 (nI (L - 1)) j = μ j := fun j q => mput_ne j q
    have e2f : ∀ f, f ≠ 22 → mput μ 43 22 (nI (L - 1)) 43 f = μ 43 f := fun f hf => by rw [mput_at, if_neg (fun q => hf q.2)]
    refine ⟨nI (L - 1), mput σ 0 5 (nI (L - 1)), mput μ 43 22 (nI (L - 1)), ?_, ?_, h.fr (fun f hf => e1f f (by omega)) (fun j hj => e1 j (by omega)) ⟨e2f 0 (by omega), e2f 1 (by omega)⟩ (e2 44 (by omega)), ⟨L - 1, T, by rw [mput_at, if_pos ⟨rfl, rfl⟩], by omega, by rw [mput_at, if_pos ⟨rfl, rfl⟩], fun i hi => ?_⟩, ⟨fun j hj => e1 j (by omega), e1f 6 (by omega)⟩, ⟨fun j hj => e2 j (by omega), e2f 29 (by omega)⟩⟩
    · unfold O_undo
      refine ifp (by rw [a1]; exact nI_le (a := 1) (by omega) (by omega)) ?_
      refine lti (b := mput σ 0 5 (nI (L - 1))) (by rw [a1, zz_dec (by omega)]) ?_
      rw [mput_at, if_pos ⟨rfl, rfl⟩]
    · unfold M_undo
      refine ifn (by rw [a3]; exact nI_ne0 (by omega) (by omega)) ?_
      refine lti (b := mput μ 43 22 (nI (L - 1))) (by rw [a3, zz_dec (by omega)]) ?_
      rw [mput_at, if_pos ⟨rfl, rfl⟩]
    · rw [e1 2 (by omega), e2 60 (by omega)]; exact a4 i (by omega)
/- what is told, without a fault so far -/
def Row0 (n L : Nat) (T : Nat → Nat) : Prop := (∀ i, i < L → 97 ≤ T i ∧ T i < 97 + n) ∧ ∀ i j, i < j → j < L → T i ≠ T j
theorem O_isThing_eq {σ : Mem} {n : Nat} (h : σ 0 0 = nI n) (x : Int32) : O_isThing x σ = if x < 0 then 0 else if nI n ≤ x then 0 else 1 := by
  unfold O_isThing lt
  rw [h]
  by_cases a : x < 0
  · simp [a]
  · by_cases b : nI n ≤ x
    · simp [a, b]
    · simp [a, b]
theorem fault_loop {σ μ : Mem} {n : Nat} {G : Nat → Nat} {c L : Nat} {T : Nat → Nat} (h0 : σ 0 0 = nI n) (hM : MI μ n G c) (ht : Td σ μ L T) : ∃ r, lp (fun s => O_fault_b1 σ s.1 s.2) fuel (0, 0) = some r ∧ lp (fun s => M_faultOf_b1 μ s.1 s.2) fuel (0, 0) = some r ∧ ((r = .inl () ∧ Row0 n L T) ∨ ∃ i, i < L ∧ r = .inr (nI i) ∧ ¬ Row0 n L T) := by
  obtain ⟨a1, a2, a3, a4⟩ := ht
  have hn := hM.2.2.1
  have key : ∃ i m, (i ≤ L ∧ m < 256 ∧ (∀ b, m.testBit b = true ↔ ∃ k, k < i ∧ T k = 97 + b) ∧ Row0 n i T) ∧ (i = L ∨ (i < L ∧ ¬ Row0 n (i + 1) T)) ∧ (∀ j, j < i → Row0 n (j + 1) T) := by
    have hex : ∀ d, d ≤ L → Row0 n d T ∨ ∃ i, i < d ∧ Row0 n i T ∧ ¬ Row0 n (i + 1) T := by
      intro d
      induction d with
      | zero => intro _; exact Or.inl ⟨fun i hi => by omega, fun i j _ hj => by omega⟩
      | succ d ih =>
        intro hd
        rcases ih (by omega) with q | ⟨i, q1, q2⟩
        · by_cases w : Row0 n (d + 1) T
          · exact Or.inl w
          · exact Or.inr ⟨d, by omega, q, w⟩
        · exact Or.inr ⟨i, by omega, q2⟩
    have mask : ∀ i, i ≤ L → Row0 n i T → ∃ m, m < 256 ∧ ∀ b, m.testBit b = true ↔ ∃ k, k < i ∧ T k = 97 + b := fun i hi hr => by
      refine ⟨mkL ((List.range i).map (fun k => T k - 97)), ?_, fun b => ?_⟩
      · refine lt_of_bits (c := 8) (fun b hb => ?_)
        rw [mkL_bit, decide_eq_true_iff] at hb
        obtain ⟨k, hk, e⟩ := List.mem_map.mp hb
        rw [List.mem_range] at hk
        have := hr.1 k hk; omega
      · rw [mkL_bit, decide_eq_true_iff, List.mem_map]
        constructor
        · rintro ⟨k, hk, e⟩
          rw [List.mem_range] at hk
          have := hr.1 k hk
          exact ⟨k, hk, by omega⟩
        · rintro ⟨k, hk, e⟩
          exact ⟨k, List.mem_range.mpr hk, by omega⟩
    have mono : ∀ i j, j ≤ i → Row0 n i T → Row0 n j T := fun i j hji hr => ⟨fun k hk => hr.1 k (by omega), fun a b hab hb => hr.2 a b hab (by omega)⟩
    rcases hex L (Nat.le_refl _) with q | ⟨i, q1, q2, q3⟩
    · obtain ⟨m, m1, m2⟩ := mask L (Nat.le_refl _) q
      exact ⟨L, m, ⟨Nat.le_refl _, m1, m2, q⟩, Or.inl rfl, fun j hj => mono L (j + 1) (by omega) q⟩
    · obtain ⟨m, m1, m2⟩ := mask i (by omega) q2
      exact ⟨i, m, ⟨by omega, m1, m2, q2⟩, Or.inr ⟨q1, q3⟩, fun j hj => mono i (j + 1) (by omega) q2⟩
  -- one step of each
  have step : ∀ j m, j < L → m < 256 → (∀ b, m.testBit b = true ↔ ∃ k, k < j ∧ T k = 97 + b) → Row0 n j T → (Row0 n (j + 1) T → ∃ m2, m2 < 256 ∧ (∀ b, m2.testBit b = true ↔ ∃ k, k < j + 1 ∧ T k = 97 + b) ∧ O_fault_b1 σ (nI m) (nI j) = some (.inl (nI m2, nI (j + 1))) ∧ M_faultOf_b1 μ (nI m) (nI j) = some (.inl (nI m2, nI (j + 1)))) ∧ (¬ Row0 n (j + 1) T → O_fault_b1 σ (nI m) (nI j) = some (.inr (.inr (nI j))) ∧ M_faultOf_b1 μ (nI m) (nI j) = some (.inr (.inr (nI j)))) := by
    intro j m hj hm hmb hr
    obtain ⟨t1, t2, t3⟩ := a4 j hj
    have g1 : ¬ σ 0 5 ≤ nI j := by rw [a1]; exact nI_ge hj (by omega)
    have g2 : ¬ μ 43 22 ≤ nI j := by rw [a3]; exact nI_ge hj (by omega)
    have r1 : rd σ 2 (nI j) = some (nI (T j)) := by rw [rdT (N := 8) rfl (by omega) (by omega), t2]
    have r2 : rd μ 60 (nI j) = some (nI (T j)) := by rw [rdT (N := 8) rfl (by omega) (by omega), t3]
    have bad : (if O_isThing (nI (T j) - 97) σ = 0 then true else if ((nI m >>> ((nI (T j) - 97) &&& 31)) &&& 1) = 0 then false else true : Bool) = true → (if M_isThing (nI (T j) - 97) μ = 0 then true else if M_isIn (nI m) (nI (T j) - 97) = 0 then false else true : Bool) = true → O_fault_b1 σ (nI m) (nI j) = some (.inr (.inr (nI j))) ∧ M_faultOf_b1 μ (nI m) (nI j) = some (.inr (.inr (nI j))) := fun hb1 hb2 => by
      constructor
      · unfold O_fault_b1
        refine ifn g1 ?_
        refine ob r1 ?_
        refine lti rfl ?_
        refine lti hb1 ?_
        exact ifp rfl rfl
      · unfold M_faultOf_b1
        refine ifn g2 ?_
        refine ob r2 ?_
        refine lti rfl ?_
        refine lti hb2 ?_
        exact ifp rfl rfl
    by_cases c1 : 97 ≤ T j ∧ T j < 97 + n
    · have e97 : nI (T j) - 97 = nI (T j - 97) := pk_sub (b := 97) c1.1
      have i1 : O_isThing (nI (T j) - 97) σ = 1 := by
        rw [O_isThing_eq h0, e97, if_neg (nI_pos (by omega)), if_neg (nI_ge (by omega) (by omega))]
      have i2 : M_isThing (nI (T j) - 97) μ = 1 := by
        unfold M_isThing
        rw [hM.1, e97]
        rcases in0 (x := nI (T j - 97)) (c := n) (by omega) with ⟨q, -⟩ | ⟨-, q | q⟩
        · exact q
        · exact absurd q (nI_pos (by omega))
        · exact absurd q (nI_ge (by omega) (by omega))
      have z : ¬ (1 : Int32) = 0 := by decide
      by_cases c2 : m.testBit (T j - 97) = true
      · have hnr : ¬ Row0 n (j + 1) T := fun hr2 => by
          obtain ⟨k, k1, k2⟩ := (hmb _).mp c2
          exact hr2.2 k j k1 (by omega) (by omega)
        refine ⟨fun q => absurd q hnr, fun _ => bad ?_ ?_⟩
        · rw [i1, if_neg z, e97, xI_tst (by omega) (by omega), if_pos c2]; rfl
        · rw [i2, if_neg z, e97, M_isIn_eq (by omega) (by omega), if_pos c2]; rfl
      · have hyr : Row0 n (j + 1) T := by
          refine ⟨fun k hk => ?_, fun a b hab hb => ?_⟩
          · by_cases q : k = j
            · rw [q]; exact c1
            · exact hr.1 k (by omega)
          · by_cases q : b = j
            · subst q
              intro e
              exact c2 ((hmb _).mpr ⟨a, hab, by omega⟩)
            · exact hr.2 a b hab (by omega)
        refine ⟨fun _ => ⟨m ||| 2 ^ (T j - 97), or_bit_lt hm (by omega), fun b => ?_, ?_, ?_⟩, fun q => absurd hyr q⟩
        · rw [Nat.testBit_or, Bool.or_eq_true, hmb, Nat.testBit_two_pow, decide_eq_true_iff]
          constructor
          · rintro (⟨k, k1, k2⟩ | q)
            · exact ⟨k, by omega, k2⟩
            · exact ⟨j, by omega, by omega⟩
          · rintro ⟨k, k1, k2⟩
            by_cases q : k = j
            · subst q; exact Or.inr (by omega)
            · exact Or.inl ⟨k, by omega, k2⟩
        · unfold O_fault_b1
          refine ifn g1 ?_
          refine ob r1 ?_
          refine lti rfl ?_
          refine lti (b := false) ?_ ?_
          · rw [i1, if_neg z, e97, xI_tst (by omega) (by omega), if_neg c2]; rfl
          refine ifn (by decide) ?_
          rw [e97]
          refine lti (i_or1 _ _ (by omega)) ?_
          exact lti (nI_1 _) rfl
        · unfold M_faultOf_b1
          refine ifn g2 ?_
          refine ob r2 ?_
          refine lti rfl ?_
          refine lti (b := false) ?_ ?_
          · rw [i2, if_neg z, e97, M_isIn_eq (by omega) (by omega), if_neg c2]; rfl
          refine ifn (by decide) ?_
          rw [e97]
          refine lti (i_or1 _ _ (by omega)) ?_
          exact lti (nI_1 _) rfl
    · have hnr : ¬ Row0 n (j + 1) T := fun hr2 => c1 (hr2.1 j (by omega))
      refine ⟨fun q => absurd q hnr, fun _ => bad ?_ ?_⟩
      · have i1 : O_isThing (nI (T j) - 97) σ = 0 := by
          rw [O_isThing_eq h0]
          by_cases c2 : 97 ≤ T j
          · have e97 : nI (T j) - 97 = nI (T j - 97) := pk_sub (b := 97) c2
            rw [e97, if_neg (nI_pos (by omega)), if_pos (nI_le (by omega) (by omega))]
          · exact if_pos (pk_sneg (b := 97) (by omega) (by omega))
        rw [i1]; rfl
      · have i2 : M_isThing (nI (T j) - 97) μ = 0 := by
          unfold M_isThing
          rw [hM.1]
          rcases in0 (x := nI (T j) - 97) (c := n) (by omega) with ⟨-, k, k1, k2⟩ | ⟨q, -⟩
          · exfalso
            by_cases c2 : 97 ≤ T j
            · have e97 : nI (T j) - 97 = nI (T j - 97) := pk_sub (b := 97) c2
              rw [e97] at k2
              have := (nI_eq (by omega) (by omega)).mp k2
              omega
            · have := pk_sneg (a := T j) (b := 97) (by omega) (by omega)
              have h97 : nI (T j) - nI 97 = nI k := k2
              rw [h97] at this
              exact nI_pos (by omega) this
          · exact q
        rw [i2]; rfl
  obtain ⟨i, m, ⟨k1, k2, k3, k4⟩, k5, k6⟩ := key
  -- both loops pass i rounds and end alike
  have run : ∀ d, d ≤ i → ∃ m2, m2 < 256 ∧ (∀ b, m2.testBit b = true ↔ ∃ k, k < i - d ∧ T k = 97 + b) := fun d _ => by
    refine ⟨mkL ((List.range (i - d)).map (fun k => T k - 97)), ?_, fun b => ?_⟩
    · refine lt_of_bits (c := 8) (fun b hb => ?_)
      rw [mkL_bit, decide_eq_true_iff] at hb
      obtain ⟨k, hk, e⟩ := List.mem_map.mp hb
      rw [List.mem_range] at hk
      have := k4.1 k (by omega); omega
    · rw [mkL_bit, decide_eq_true_iff, List.mem_map]
      constructor
      · rintro ⟨k, hk, e⟩
        rw [List.mem_range] at hk
        have := k4.1 k (by omega)
        exact ⟨k, hk, by omega⟩
      · rintro ⟨k, hk, e⟩
        exact ⟨k, List.mem_range.mpr hk, by omega⟩
  have fin : ∀ (f : Int32 × Int32 → Option ((Int32 × Int32) ⊕ (Unit ⊕ Int32))), (∀ j m, j < i → m < 256 → (∀ b, m.testBit b = true ↔ ∃ k, k < j ∧ T k = 97 + b) → ∃ m2, m2 < 256 ∧ (∀ b, m2.testBit b = true ↔ ∃ k, k < j + 1 ∧ T k = 97 + b) ∧ f (nI m, nI j) = some (.inl (nI m2, nI (j + 1)))) → ∀ r0, (∀ m, m < 256 → (∀ b, m.testBit b = true ↔ ∃ k, k < i ∧ T k = 97 + b) → f (nI m, nI i) = some (.inr r0)) → lp f fuel (0, 0) = some r0 := fun f hst r0 hen => by
    have : ∃ r, lp f fuel (0, 0) = some r ∧ r = r0 := by
      refine lp_for i (fun j s => ∃ m, m < 256 ∧ (∀ b, m.testBit b = true ↔ ∃ k, k < j ∧ T k = 97 + b) ∧ s = (nI m, nI j)) _ _ 0 (by omega) ⟨0, by omega, fun b => by simp, rfl⟩ (by omega) ?_ ?_
      · intro j s hj ⟨m, q1, q2, q3⟩
        subst q3
        left
        obtain ⟨m2, w1, w2, w3⟩ := hst j m hj q1 q2
        exact ⟨_, w3, m2, w1, w2, rfl⟩
      · intro s ⟨m, q1, q2, q3⟩
        subst q3
        exact ⟨r0, hen m q1 q2, rfl⟩
    obtain ⟨r, e1, e2⟩ := this
    rw [e1, e2]
  have mono : ∀ j, j ≤ i → Row0 n j T := fun j hj => ⟨fun k hk => k4.1 k (by omega), fun a b hab hb => k4.2 a b hab (by omega)⟩
  rcases k5 with e | ⟨e1, e2⟩
  · subst e
    refine ⟨.inl (), fin _ (fun j m q1 q2 q3 => ?_) _ (fun m _ _ => ?_), fin _ (fun j m q1 q2 q3 => ?_) _ (fun m _ _ => ?_), Or.inl ⟨rfl, k4⟩⟩
    · obtain ⟨m2, w1, w2, w3, w4⟩ := (step j m q1 q2 q3 (mono j (by omega))).1 (k6 j q1)
      exact ⟨m2, w1, w2, w3⟩
    · unfold O_fault_b1
      exact ifp (by show σ 0 5 ≤ nI i; rw [a1]; exact nI_le (Nat.le_refl _) (by omega)) rfl
    · obtain ⟨m2, w1, w2, w3, w4⟩ := (step j m q1 q2 q3 (mono j (by omega))).1 (k6 j q1)
      exact ⟨m2, w1, w2, w4⟩
    · unfold M_faultOf_b1
      exact ifp (by show μ 43 22 ≤ nI i; rw [a3]; exact nI_le (Nat.le_refl _) (by omega)) rfl
  · refine ⟨.inr (nI i), fin _ (fun j m q1 q2 q3 => ?_) _ (fun m q1 q2 => ?_), fin _ (fun j m q1 q2 q3 => ?_) _ (fun m q1 q2 => ?_), Or.inr ⟨i, e1, rfl, fun q => e2 ⟨fun k hk => q.1 k (by omega), fun a b hab hb => q.2 a b hab (by omega)⟩⟩⟩
    · obtain ⟨m2, w1, w2, w3, w4⟩ := (step j m (by omega) q2 q3 (mono j (by omega))).1 (k6 j q1)
      exact ⟨m2, w1, w2, w3⟩
    · exact ((step i m e1 q1 q2 k4).2 e2).1
    · obtain ⟨m2, w1, w2, w3, w4⟩ := (step j m (by omega) q2 q3 (mono j (by omega))).1 (k6 j q1)
      exact ⟨m2, w1, w2, w4⟩
    · exact ((step i m e1 q1 q2 k4).2 e2).2
