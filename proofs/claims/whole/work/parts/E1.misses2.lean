noncomputable def msB (n : Nat) (G : Nat → Nat) (T : Nat → Nat) (g : Nat) : Bool := !cnB (G g &&& fullM n) (rwT n T)
theorem misses_val {σ μ : Mem} {n : Nat} {G : Nat → Nat} {c : Nat} {kd : Nat → Bool} {ch : Nat → List Nat} {st : Nat → Nat} {root L : Nat} {T : Nat → Nat} (hC : CI σ n G c kd ch st root) (hM : MI μ n G c) (hT : Td σ μ L T) : (O_misses σ = some (-3, σ) ∧ M_isRow μ = some 0) ∨ (L = n ∧ Row0 n n T ∧ ∃ f, O_misses σ = some (nI (bitsUp (msB n G T) c), mset σ 5 f) ∧ (∀ i, i < n → f (T i - 97) = nI i) ∧ M_isRow μ = some 1 ∧ M_missesOf μ = some (nI (bitsUp (msB n G T) c))) := by
  obtain ⟨a, f1, f2, f3⟩ := fault_val hC.1.1 hM hT
  obtain ⟨t1, t2, t3, t4⟩ := hT
  have hn := hM.2.2.1
  have hn1 := hM.2.1
  have hc := hM.2.2.2.2.1
  by_cases cL : L = 0
  · left
    subst cL
    constructor
    · unfold O_misses
      exact ob (a := true) (ifp (by rw [t1]; rfl) rfl) (ifp rfl rfl)
    · unfold M_isRow
      exact ob (a := false) (ifp (by rw [t3]; decide) rfl) (lti rfl rfl)
  · have hnz : ¬ σ 0 5 = 0 := by rw [t1]; exact nI_ne0 (by omega) (by omega)
    have hnz2 : ¬ μ 43 22 ≤ 0 := by rw [t3]; exact nI_nle (by omega) (by omega)
    by_cases ca : a = -1
    · right
      obtain ⟨hR, hLn⟩ := f3.mp ca
      have hLn : L = n := by omega
      subst hLn
      obtain ⟨f, p1, p2⟩ := findPlaces_ok hn hC.1.1 t1 (fun i hi => (t4 i hi).2.1) hR
      have hG := hC.1.2.2.2.2.2.1
      have e0 : mset σ 5 f 0 = σ 0 := mset_ne (by omega)
      have key : ∃ r, lp (fun s => O_misses_b1 (mset σ 5 f) s.1 s.2) fuel (0, 0) = some r ∧ r = nI (bitsUp (msB L G T) c) := by
        refine lp_for c (fun j s => s = (nI (bitsUp (msB L G T) j), nI j)) _ _ 0 (by omega) rfl (by omega) ?_ ?_
        · intro j s hj hs
          subst hs
          left
          obtain ⟨g1, g2⟩ := hG j hj
          have hs := sbs_ok (σ := mset σ 5 f) hn (by rw [e0]; exact hC.1.1) hR (fun i hi => by rw [mset_eq]; exact p2 i hi) g2
          refine ⟨_, ?_, rfl⟩
          unfold O_misses_b1
          refine ifn (by rw [e0, hC.1.2.2.2.1]; exact nI_ge hj (by omega)) ?_
          refine ob (a := nI (G j)) (by rw [rdT (N := 10) rfl (by omega) (by omega), mset_ne (by omega), g1]) ?_
          refine ob hs ?_
          refine lti (b := nI (bitsUp (msB L G T) (j + 1))) ?_ (lti (nI_1 _) rfl)
          rw [bup_s]
          cases q : cnB (G j &&& fullM L) (rwT L T)
          · have hm : msB L G T j = true := by unfold msB; rw [q]; rfl
            rw [if_pos hm]
            show nI _ ||| ((1 : Int32) <<< (nI j &&& 31)) = _
            rw [xI_bit (by omega), xI_or]
          · have hm : ¬ msB L G T j = true := by unfold msB; rw [q]; decide
            rw [if_neg hm, Nat.or_zero]; rfl
        · intro s hs
          subst hs
          refine ⟨_, ?_, rfl⟩
          unfold O_misses_b1
          exact ifp (by rw [e0, hC.1.2.2.2.1]; exact nI_le (Nat.le_refl _) (by omega)) rfl
      have key2 : ∃ r, lp (fun s => M_missesOf_b1 μ s.1 s.2) fuel (0, 0) = some r ∧ r = nI (bitsUp (msB L G T) c) := by
        refine lp_for c (fun j s => s = (nI (bitsUp (msB L G T) j), nI j)) _ _ 0 (by omega) rfl (by omega) ?_ ?_
        · intro j s hj hs
          subst hs
          left
          obtain ⟨g1, g2⟩ := hM.2.2.2.2.2 j hj
          have hh := M_isHad_eq hn t3 (fun i hi => (t4 i hi).2.2) hR (S := G j &&& fullM L) Nat.and_le_right
          refine ⟨_, ?_, rfl⟩
          unfold M_missesOf_b1
          refine ifn (by rw [hM.2.2.2.1]; exact nI_ge hj (by omega)) ?_
          refine ob (a := nI (G j)) (by rw [rdT (N := 10) rfl (by omega) (by omega), g1]) ?_
          rw [M_all_eq hM.1 hn, xI_and]
          refine ob hh ?_
          refine lti (b := nI (if msB L G T j = true then 2 ^ j else 0)) ?_ ?_
          · cases q : cnB (G j &&& fullM L) (rwT L T)
            · have hm : msB L G T j = true := by unfold msB; rw [q]; rfl
              rw [if_pos hm]
              show ((1 : Int32) <<< (nI j &&& 31)) = _
              exact xI_bit (by omega)
            · have hm : ¬ msB L G T j = true := by unfold msB; rw [q]; decide
              rw [if_neg hm]; rfl
          · exact lti (by rw [xI_or, bup_s]) (lti (nI_1 _) rfl)
        · intro s hs
          subst hs
          refine ⟨_, ?_, rfl⟩
          unfold M_missesOf_b1
          exact ifp (by rw [hM.2.2.2.1]; exact nI_le (Nat.le_refl _) (by omega)) rfl
      obtain ⟨r, k1, k2⟩ := key
      obtain ⟨r', k3, k4⟩ := key2
      refine ⟨rfl, hR, f, ?_, p2, ?_, ?_⟩
      · unfold O_misses
        refine ob (a := false) ?_ ?_
        · refine ifn hnz ?_
          refine ob f1 ?_
          exact ifp ca rfl
        · refine ifn (by decide) ?_
          refine ob p1 ?_
          refine ob k1 ?_
          rw [k2]
      · unfold M_isRow
        refine ob (a := true) ?_ (lti rfl rfl)
        refine ifn hnz2 ?_
        refine ob f2 ?_
        exact ifp ca rfl
      · unfold M_missesOf
        refine ob k3 ?_
        rw [k4]
    · left
      constructor
      · unfold O_misses
        refine ob (a := true) ?_ (ifp rfl rfl)
        refine ifn hnz ?_
        refine ob f1 ?_
        exact ifn ca rfl
      · unfold M_isRow
        refine ob (a := false) ?_ (lti rfl rfl)
        refine ifn hnz2 ?_
        refine ob f2 ?_
        exact ifn ca rfl
theorem s_misses {σ μ : Mem} (h : CMx σ μ) (ht : Tdx σ μ) : ∃ a σ', O_misses σ = some (a, σ') ∧ M_misses μ = some a ∧ CMx σ' μ ∧ KC σ σ' := by
  have h0 := h
  obtain ⟨n, G, c, ⟨kd, ch, st, root, hC⟩, hM⟩ := h
  obtain ⟨L, T, hT⟩ := ht
  rcases misses_val hC hM hT with ⟨m1, m2⟩ | ⟨-, -, f, m1, m2, m3, m4⟩
  · refine ⟨-3, σ, m1, ?_, h0, KC.rf⟩
    unfold M_misses
    refine ob m2 ?_
    exact ob (a := -3) (ifp rfl rfl) rfl
  · refine ⟨_, mset σ 5 f, m1, ?_, h0.fr (fun g _ => by rw [mset_ne (by omega)]) (fun k hk => mset_ne (by omega)) ⟨rfl, rfl⟩ rfl, ⟨fun k hk => mset_ne (by omega), by rw [mset_ne (by omega)], by rw [mset_ne (by omega)]⟩⟩
    unfold M_misses
    refine ob m3 ?_
    refine ob (a := nI (bitsUp (msB n G T) c)) ?_ rfl
    refine ifn (by decide) ?_
    exact ob m4 rfl
