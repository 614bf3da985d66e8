def Sh1 (σ μ : Mem) (s : Nat) : Prop := (σ 7 s = -1 ∧ μ 61 s = 0) ∨ ∃ f sz, f ≤ 2 ∧ sz ≤ 60 ∧ σ 7 s = nI f ∧ μ 61 s = 1 ∧ μ 62 s = nI f ∧ σ 8 s = nI sz ∧ μ 63 s = nI sz ∧ ∀ i, i < sz → σ 9 (s * 60 + i) = μ 64 (60 * s + i)
def Sh (σ μ : Mem) : Prop := ∀ s, s < 4 → Sh1 σ μ s
def Rel (σ μ : Mem) : Prop := CMx σ μ ∧ Tdx σ μ ∧ Fnd σ μ ∧ Sh σ μ
theorem Sh.keep {σ τ μ ν : Mem} (h : Sh σ μ) (hc : ∀ k, k = 7 ∨ k = 8 ∨ k = 9 → τ k = σ k) (hm : ∀ k, k = 61 ∨ k = 62 ∨ k = 63 ∨ k = 64 → ν k = μ k) : Sh τ ν := fun s hs => by
  unfold Sh1
  rw [hc 7 (by omega), hc 8 (by omega), hc 9 (by omega), hm 61 (by omega), hm 62 (by omega), hm 63 (by omega), hm 64 (by omega)]
  exact h s hs
/- a call that keeps all but the groups and the things -/
theorem Rel.k1 {σ τ μ ν : Mem} (h : Rel σ μ) (hx : CMx τ ν) (hc : KC σ τ) (hm : KM μ ν) : Rel τ ν := by
  obtain ⟨a1, ⟨L, T, a2⟩, a3, a4⟩ := h
  refine ⟨hx, ⟨L, T, a2.keep hc hm⟩, ?_, a4.keep (fun k hk => hc.1 k (by omega)) (fun k hk => hm.1 k (by omega))⟩
  unfold Fnd
  rw [hc.2.2, hm.2.2]; exact a3
theorem Rel.k2 {σ τ μ ν : Mem} (h : Rel σ μ) (hx : CMx τ ν) (ht : Tdx τ ν) (hc : KS σ τ) (hm : KT μ ν) : Rel τ ν := by
  obtain ⟨a1, -, a3, a4⟩ := h
  refine ⟨hx, ht, ?_, a4.keep (fun k hk => hc.1 k (by omega)) (fun k hk => hm.1 k (by omega))⟩
  unfold Fnd
  rw [hc.2, hm.2]; exact a3
theorem Rel.found {σ μ : Mem} (h : Rel σ μ) (v : Int32) : Rel (mput σ 0 6 v) (mput μ 43 29 v) := by
  obtain ⟨a1, ⟨L, T, a2⟩, a3, a4⟩ := h
  have e1 : ∀ f, f ≠ 6 → mput σ 0 6 v 0 f = σ 0 f := fun f hf => by rw [mput_at, if_neg (fun q => hf q.2)]
  have e2 : ∀ f, f ≠ 29 → mput μ 43 29 v 43 f = μ 43 f := fun f hf => by rw [mput_at, if_neg (fun q => hf q.2)]
  have k1 : ∀ j, j ≠ 0 → mput σ 0 6 v j = σ j := fun j hj => mput_ne j hj
  have k2 : ∀ j, j ≠ 43 → mput μ 43 29 v j = μ j := fun j hj => mput_ne j hj
  refine ⟨a1.fr (fun f hf => e1 f (by omega)) (fun j hj => k1 j (by omega)) ⟨e2 0 (by omega), e2 1 (by omega)⟩ (k2 44 (by omega)), ⟨L, T, ?_⟩, ?_, a4.keep (fun j hj => k1 j (by omega)) (fun j hj => k2 j (by omega))⟩
  · obtain ⟨b1, b2, b3, b4⟩ := a2
    refine ⟨by rw [e1 5 (by omega)]; exact b1, b2, by rw [e2 22 (by omega)]; exact b3, fun i hi => ?_⟩
    rw [k1 2 (by omega), k2 60 (by omega)]; exact b4 i hi
  · unfold Fnd; rw [mput_at, mput_at, if_pos ⟨rfl, rfl⟩, if_pos ⟨rfl, rfl⟩]
/- a change of the sheets alone -/
theorem Rel.sheets {σ τ μ ν : Mem} (h : Rel σ μ) (hc : ∀ k, k ≠ 7 → k ≠ 8 → k ≠ 9 → τ k = σ k) (hm : ∀ k, k ≠ 61 → k ≠ 62 → k ≠ 63 → k ≠ 64 → k ≠ 65 → ν k = μ k) (hs : Sh τ ν) : Rel τ ν := by
  obtain ⟨a1, ⟨L, T, a2⟩, a3, a4⟩ := h
  have e0 : τ 0 = σ 0 := hc 0 (by omega) (by omega) (by omega)
  have e43 : ν 43 = μ 43 := hm 43 (by omega) (by omega) (by omega) (by omega) (by omega)
  refine ⟨a1.fr (fun f _ => by rw [e0]) (fun j hj => hc j (by omega) (by omega) (by omega)) ⟨by rw [e43], by rw [e43]⟩ (hm 44 (by omega) (by omega) (by omega) (by omega) (by omega)), ⟨L, T, ?_⟩, ?_, hs⟩
  · obtain ⟨b1, b2, b3, b4⟩ := a2
    refine ⟨by rw [e0]; exact b1, b2, by rw [e43]; exact b3, fun i hi => ?_⟩
    rw [hc 2 (by omega) (by omega) (by omega), hm 60 (by omega) (by omega) (by omega) (by omega) (by omega)]; exact b4 i hi
  · unfold Fnd; rw [e0, e43]; exact a3
theorem in3 {x : Int32} {hi : Nat} (hh : hi < 2 ^ 30) : (∃ k, k ≤ hi ∧ x = nI k ∧ M_in x 0 (nI hi) = 1) ∨ (M_in x 0 (nI hi) = 0 ∧ (x < 0 ∨ nI hi < x)) := by
  rw [M_in_eq]
  rcases in_lo (x := x) (lo := 0) (hi := hi) (by omega) (by omega) with ⟨k, k1, k2, rfl⟩ | q | q
  · left
    refine ⟨k, k2, rfl, ?_⟩
    rw [if_neg (nI_pos (by omega)), if_neg (nI_nlt k2 (by omega))]
  · right
    have q : x < 0 := q
    rw [if_pos q]; exact ⟨rfl, Or.inl q⟩
  · right
    by_cases q0 : x < 0
    · rw [if_pos q0]; exact ⟨rfl, Or.inl q0⟩
    · rw [if_neg q0, if_pos q]; exact ⟨rfl, Or.inr q⟩
theorem sh_cases (x : Int32) : (∃ s, s < 4 ∧ x = nI s ∧ O_isSheet x = 1 ∧ M_isSheet x = 1) ∨ (O_isSheet x = 0 ∧ M_isSheet x = 0) := by
  have eO : O_isSheet x = if x < 0 then 0 else if 4 ≤ x then 0 else 1 := by
    unfold O_isSheet lt
    by_cases a : x < 0
    · simp [a]
    · by_cases b : 4 ≤ x
      · simp [a, b]
      · simp [a, b]
  rw [eO]
  rcases in3 (x := x) (hi := 3) (by omega) with ⟨k, k1, rfl, k3⟩ | ⟨k1, k2⟩
  · left
    refine ⟨k, by omega, rfl, ?_, k3⟩
    rw [if_neg (nI_pos (by omega)), if_neg (show ¬ (4 : Int32) ≤ nI k from nI_ge (b := 4) (by omega) (by omega))]
  · right
    refine ⟨?_, k1⟩
    by_cases q0 : x < 0
    · exact if_pos q0
    · rw [if_neg q0]
      refine if_pos ?_
      obtain ⟨k, w1, w2⟩ := nI_of q0
      subst w2
      have := (nI_ltI (a := 3) (by omega) w1).mp (k2.resolve_left q0)
      exact nI_le (a := 4) (by omega) w1
theorem form_cases (x : Int32) : (∃ f, f ≤ 2 ∧ x = nI f ∧ O_isForm x = 1 ∧ M_in x 0 2 = 1) ∨ (O_isForm x = 0 ∧ M_in x 0 2 = 0) := by
  have eO : O_isForm x = if x < 0 then 0 else if 2 < x then 0 else 1 := by
    unfold O_isForm lt
    by_cases a : x < 0
    · simp [a]
    · by_cases b : 2 < x
      · simp [a, b]
      · simp [a, b]
  rw [eO]
  rcases in3 (x := x) (hi := 2) (by omega) with ⟨k, k1, rfl, k3⟩ | ⟨k1, k2⟩
  · left
    exact ⟨k, k1, rfl, by rw [if_neg (nI_pos (by omega)), if_neg (show ¬ (2 : Int32) < nI k from nI_nlt (a := 2) k1 (by omega))], k3⟩
  · right
    refine ⟨?_, k1⟩
    by_cases q0 : x < 0
    · exact if_pos q0
    · rw [if_neg q0]; exact if_pos (k2.resolve_left q0)
theorem s_lose {σ μ : Mem} (h : Rel σ μ) (x : Int32) : ∃ a σ' μ', O_lose x σ = some (a, σ') ∧ M_lose x μ = some (a, μ') ∧ Rel σ' μ' := by
  rcases sh_cases x with ⟨s, hs, rfl, s1, s2⟩ | ⟨s1, s2⟩
  · have r7 : rd σ 7 (nI s) = some (σ 7 s) := rdT (N := 4) rfl hs (by omega)
    have r61 : rd μ 61 (nI s) = some (μ 61 s) := rdT (N := 4) rfl hs (by omega)
    rcases h.2.2.2 s hs with ⟨a1, a2⟩ | ⟨f, sz, b1, b2, b3, b4, b5, b6, b7, b8⟩
    · rw [a1] at r7
      rw [a2] at r61
      refine ⟨(-10) - 1, _, _, ?_, ?_, h.found 1⟩
      · unfold O_lose
        refine ifn (by rw [s1]; decide) ?_
        refine ob (a := 1) (ob r7 (lti rfl rfl)) ?_
        refine ifn (by decide) ?_
        exact lti rfl (lti rfl (lti rfl rfl))
      · unfold M_lose
        refine ifn (by rw [s2]; decide) ?_
        refine ob r61 ?_
        refine ifp rfl ?_
        exact lti rfl (lti rfl (lti rfl rfl))
    · rw [b3] at r7
      rw [b4] at r61
      have r8 : rd σ 8 (nI s) = some (nI sz) := by rw [rdT (N := 4) rfl hs (by omega), b6]
      refine ⟨nI sz, mput (mput σ 7 s (-1)) 8 s 0, mput μ 61 s 0, ?_, ?_, h.sheets (fun k q1 q2 q3 => by rw [mput_ne _ q2, mput_ne _ q1]) (fun k q1 _ _ _ _ => mput_ne _ q1) (fun s' hs' => ?_)⟩
      · unfold O_lose
        refine ifn (by rw [s1]; decide) ?_
        refine ob (a := 0) (ob r7 (lti (if_neg (nI_nm1 (by omega))) rfl)) ?_
        refine ifp rfl ?_
        refine ob (a := nI sz) (ob r8 rfl) ?_
        refine ob (a := mput (mput σ 7 s (-1)) 8 s 0) ?_ rfl
        unfold S_drop
        refine ob (wrT (N := 4) rfl hs (by omega)) ?_
        exact ob (wrT (N := 4) rfl hs (by omega)) rfl
      · unfold M_lose
        refine ifn (by rw [s2]; decide) ?_
        refine ob r61 ?_
        refine ifn (by decide) ?_
        refine ob (wrT (N := 4) rfl hs (by omega)) ?_
        refine ob (a := nI sz) (by rw [rdT (N := 4) rfl hs (by omega), mput_ne _ (by omega), b7]) rfl
      · unfold Sh1
        have e7 : mput (mput σ 7 s (-1)) 8 s 0 7 = upd (σ 7) s (-1) := by rw [mput_ne 7 (by omega), mput_2]
        have e8 : mput (mput σ 7 s (-1)) 8 s 0 8 = upd (σ 8) s 0 := by rw [mput_2, mput_ne 8 (by omega)]
        have e9 : mput (mput σ 7 s (-1)) 8 s 0 9 = σ 9 := by rw [mput_ne 9 (by omega), mput_ne 9 (by omega)]
        rw [e7, e8, e9, mput_2, mput_ne 62 (by omega), mput_ne 63 (by omega), mput_ne 64 (by omega)]
        by_cases q : s' = s
        · left; rw [q, pk_us, pk_us]; exact ⟨rfl, rfl⟩
        · rw [pk_un q, pk_un q, pk_un q]
          exact h.2.2.2 s' hs'
  · refine ⟨-2, σ, μ, ?_, ?_, h⟩
    · unfold O_lose; exact ifp s1 rfl
    · unfold M_lose; exact ifp s2 rfl
theorem find_val {σ μ : Mem} (h : Rel σ μ) {s f : Nat} (hs : s < 4) (hf : f ≤ 2) (z : Int32) : ∃ v, O_findingOf (nI s) (nI f) z σ = some v ∧ M_lacks (nI s) (nI f) z μ = some v ∧ ((v = 0 ∧ ∃ sz i, sz ≤ 60 ∧ i < sz ∧ z = nI i ∧ σ 7 s = nI f ∧ μ 61 s = 1 ∧ μ 62 s = nI f ∧ σ 8 s = nI sz ∧ μ 63 s = nI sz ∧ ∀ i, i < sz → σ 9 (s * 60 + i) = μ 64 (60 * s + i)) ∨ (¬ v = 0 ∧ ¬ v ≤ 0)) := by
  have r7 : rd σ 7 (nI s) = some (σ 7 s) := rdT (N := 4) rfl hs (by omega)
  have r61 : rd μ 61 (nI s) = some (μ 61 s) := rdT (N := 4) rfl hs (by omega)
  rcases h.2.2.2 s hs with ⟨a1, a2⟩ | ⟨f', sz, b1, b2, b3, b4, b5, b6, b7, b8⟩
  · rw [a1] at r7
    rw [a2] at r61
    refine ⟨1, ?_, ?_, Or.inr ⟨by decide, by decide⟩⟩
    · unfold O_findingOf
      refine ob (a := 1) (ob r7 (lti rfl rfl)) ?_
      exact ifn (by decide) rfl
    · unfold M_lacks
      refine ob r61 ?_
      exact ob (a := 1) (ifp rfl rfl) rfl
  · rw [b3] at r7
    rw [b4] at r61
    have r62 : rd μ 62 (nI s) = some (nI f') := by rw [rdT (N := 4) rfl hs (by omega), b5]
    have r63 : rd μ 63 (nI s) = some (nI sz) := by rw [rdT (N := 4) rfl hs (by omega), b7]
    have r8 : rd σ 8 (nI s) = some (nI sz) := by rw [rdT (N := 4) rfl hs (by omega), b6]
    have hlost : S_isLost (nI s) σ = some 0 := ob r7 (lti (if_neg (nI_nm1 (by omega))) rfl)
    by_cases cf : f' = f
    · subst cf
      rcases in0 (x := z) (c := sz) (by omega) with ⟨q1, i, hi, rfl⟩ | ⟨q1, q2⟩
      · refine ⟨0, ?_, ?_, Or.inl ⟨rfl, sz, i, b2, hi, rfl, b3, b4, b5, b6, b7, b8⟩⟩
        · unfold O_findingOf
          refine ob hlost ?_
          refine ifp rfl ?_
          refine ob (a := nI f') (ob r7 rfl) ?_
          refine ifp rfl ?_
          refine ob (a := false) ?_ (lti rfl rfl)
          refine ifn (nI_pos (by omega)) ?_
          refine ob (a := nI sz) (ob r8 rfl) ?_
          exact ifp (nI_lt hi (by omega)) rfl
        · unfold M_lacks
          refine ob r61 ?_
          refine ob (a := 0) ?_ rfl
          refine ifn (by decide) ?_
          refine ob r62 ?_
          refine ifp rfl ?_
          refine ob r63 ?_
          exact ifn (by rw [q1]; decide) rfl
      · refine ⟨2, ?_, ?_, Or.inr ⟨by decide, by decide⟩⟩
        · unfold O_findingOf
          refine ob hlost ?_
          refine ifp rfl ?_
          refine ob (a := nI f') (ob r7 rfl) ?_
          refine ifp rfl ?_
          refine ob (a := true) ?_ (lti rfl rfl)
          by_cases q0 : z < 0
          · exact ifp q0 rfl
          · refine ifn q0 ?_
            refine ob (a := nI sz) (ob r8 rfl) ?_
            exact ifn (Int32.not_lt.mpr (q2.resolve_left q0)) rfl
        · unfold M_lacks
          refine ob r61 ?_
          refine ob (a := 2) ?_ rfl
          refine ifn (by decide) ?_
          refine ob r62 ?_
          refine ifp rfl ?_
          refine ob r63 ?_
          exact ifp q1 rfl
    · refine ⟨3, ?_, ?_, Or.inr ⟨by decide, by decide⟩⟩
      · unfold O_findingOf
        refine ob hlost ?_
        refine ifp rfl ?_
        refine ob (a := nI f') (ob r7 rfl) ?_
        exact ifn (nI_ne (by omega) (by omega) cf) rfl
      · unfold M_lacks
        refine ob r61 ?_
        refine ob (a := 3) ?_ rfl
        refine ifn (by decide) ?_
        refine ob r62 ?_
        exact ifn (nI_ne (by omega) (by omega) cf) rfl
theorem bad2 {x y : Int32} : (if O_isSheet x = 0 then true else if O_isForm y = 0 then true else false : Bool) = true ∨ (if O_isSheet x = 0 then true else if O_isForm y = 0 then true else false : Bool) = false := by
  cases (if O_isSheet x = 0 then true else if O_isForm y = 0 then true else false : Bool)
  · exact Or.inr rfl
  · exact Or.inl rfl
theorem sf_cases (x y : Int32) : (∃ s f, s < 4 ∧ f ≤ 2 ∧ x = nI s ∧ y = nI f ∧ (if O_isSheet x = 0 then true else if O_isForm y = 0 then true else false : Bool) = false ∧ (if M_isSheet x = 0 then true else if M_in y 0 2 = 0 then true else false : Bool) = false) ∨ ((if O_isSheet x = 0 then true else if O_isForm y = 0 then true else false : Bool) = true ∧ (if M_isSheet x = 0 then true else if M_in y 0 2 = 0 then true else false : Bool) = true) := by
  have z : ¬ (1 : Int32) = 0 := by decide
  rcases sh_cases x with ⟨s, hs, rfl, s1, s2⟩ | ⟨s1, s2⟩
  · rcases form_cases y with ⟨f, hf, rfl, f1, f2⟩ | ⟨f1, f2⟩
    · left
      exact ⟨s, f, hs, hf, rfl, rfl, by rw [s1, f1, if_neg z, if_neg z], by rw [s2, f2, if_neg z, if_neg z]⟩
    · right
      rw [s1, s2, f1, f2, if_neg z]; exact ⟨rfl, rfl⟩
  · right
    rw [s1, s2]; exact ⟨rfl, rfl⟩
theorem s_get {σ μ : Mem} (h : Rel σ μ) (x y z : Int32) : ∃ a σ' μ', O_get x y z σ = some (a, σ') ∧ M_get x y z μ = some (a, μ') ∧ Rel σ' μ' := by
  rcases sf_cases x y with ⟨s, f, hs, hf, rfl, rfl, c1, c2⟩ | ⟨c1, c2⟩
  · obtain ⟨v, f1, f2, f3⟩ := find_val h hs hf z
    rcases f3 with ⟨e, sz, i, d1, d2, rfl, d4, d5, d6, d7, d8, d9⟩ | ⟨e1, e2⟩
    · subst e
      refine ⟨σ 9 (s * 60 + i), σ, μ, ?_, ?_, h⟩
      · unfold O_get
        refine lti c1 ?_
        refine ifn (by decide) ?_
        refine ob f1 ?_
        refine ifp rfl ?_
        refine ob (a := σ 9 (s * 60 + i)) ?_ rfl
        unfold S_item
        refine ob (a := σ 9 (s * 60 + i)) ?_ rfl
        rw [L_60, xI_mul, nI_add]
        exact rdT (N := 240) rfl (by omega) (by omega)
      · unfold M_get
        refine lti c2 ?_
        refine ifn (by decide) ?_
        refine ob f2 ?_
        refine ifp (by decide) ?_
        refine ob (a := σ 9 (s * 60 + i)) ?_ rfl
        rw [L_60, xI_mul, nI_add, rdT (N := 240) rfl (by omega) (by omega), d9 i d2]
    · refine ⟨-2147483648, _, _, ?_, ?_, h.found v⟩
      · unfold O_get
        refine lti c1 ?_
        refine ifn (by decide) ?_
        refine ob f1 ?_
        refine ifn e1 ?_
        exact lti rfl (lti rfl (lti rfl rfl))
      · unfold M_get
        refine lti c2 ?_
        refine ifn (by decide) ?_
        refine ob f2 ?_
        refine ifn e2 ?_
        exact lti rfl rfl
  · refine ⟨-2147483648, σ, μ, ?_, ?_, h⟩
    · unfold O_get; exact lti c1 (ifp rfl rfl)
    · unfold M_get; exact lti c2 (ifp rfl rfl)
def kpt (f : Nat) (v : Int32) : Int32 := if f = 0 then v.toInt8.toInt32 else if f = 1 then v.toInt16.toInt32 else v
theorem setItem_eq {σ : Mem} {s f i : Nat} (hs : s < 4) (hf : f ≤ 2) (h7 : σ 7 s = nI f) (hi : i < 60) (v : Int32) : S_setItem (nI s) (nI i) v σ = some (mput σ 9 (s * 60 + i) (kpt f v)) := by
  have r7 : rd σ 7 (nI s) = some (nI f) := by rw [rdT (N := 4) rfl hs (by omega), h7]
  unfold S_setItem
  refine ob r7 ?_
  refine ob (a := kpt f v) ?_ ?_
  · unfold kpt
    by_cases c0 : f = 0
    · subst c0; rw [if_pos rfl]; exact ifp rfl (lti rfl rfl)
    · rw [if_neg c0]
      refine ifn (nI_ne0 (by omega) (by omega)) ?_
      refine ob r7 ?_
      by_cases c1 : f = 1
      · subst c1; rw [if_pos rfl]; exact ifp rfl (lti rfl rfl)
      · rw [if_neg c1]; exact ifn (nI_ne (b := 1) (by omega) (by omega) c1) rfl
  · refine ob (a := mput σ 9 (s * 60 + i) (kpt f v)) ?_ rfl
    rw [L_60, xI_mul, nI_add]
    exact wrT (N := 240) rfl (by omega) (by omega)
theorem keep_eq {μ : Mem} {s f i : Nat} (hs : s < 4) (hf : f ≤ 2) (h62 : μ 62 s = nI f) (hi : i < 60) (v : Int32) : M_keep (nI s) (nI i) v μ = some (mput μ 64 (60 * s + i) (kpt f v)) := by
  have r62 : rd μ 62 (nI s) = some (nI f) := by rw [rdT (N := 4) rfl hs (by omega), h62]
  unfold M_keep
  refine ob r62 ?_
  refine ob (a := kpt f v) ?_ ?_
  · unfold kpt
    by_cases c0 : f = 0
    · subst c0; rw [if_pos rfl]; exact ifp rfl rfl
    · rw [if_neg c0]
      refine ifn (nI_ne0 (by omega) (by omega)) ?_
      refine ob r62 ?_
      by_cases c1 : f = 1
      · subst c1; rw [if_pos rfl]; exact ifp rfl rfl
      · rw [if_neg c1]; exact ifn (nI_ne (b := 1) (by omega) (by omega) c1) rfl
  · refine ob (a := mput μ 64 (60 * s + i) (kpt f v)) ?_ rfl
    rw [L_60, xI_mul, nI_add]
    exact wrT (N := 240) rfl (by omega) (by omega)
theorem Rel.item {σ μ : Mem} (h : Rel σ μ) {s i : Nat} (hs : s < 4) (hi : i < 60) (v : Int32) : Rel (mput σ 9 (s * 60 + i) v) (mput μ 64 (60 * s + i) v) := by
  refine h.sheets (fun k _ _ q => mput_ne _ q) (fun k _ _ _ q _ => mput_ne _ q) (fun s' hs' => ?_)
  unfold Sh1
  rw [mput_ne 7 (by omega), mput_ne 8 (by omega), mput_2, mput_ne 61 (by omega), mput_ne 62 (by omega), mput_ne 63 (by omega), mput_2]
  rcases h.2.2.2 s' hs' with q | ⟨f, sz, b1, b2, b3, b4, b5, b6, b7, b8⟩
  · exact Or.inl q
  · right
    refine ⟨f, sz, b1, b2, b3, b4, b5, b6, b7, fun k hk => ?_⟩
    rw [upd_at, upd_at]
    by_cases q : s' * 60 + k = s * 60 + i
    · rw [if_pos q, if_pos (by omega)]
    · rw [if_neg q, if_neg (by omega)]; exact b8 k hk
theorem s_put {σ μ : Mem} (h : Rel σ μ) (x y z w : Int32) : ∃ a σ' μ', O_put x y z w σ = some (a, σ') ∧ M_put x y z w μ = some (a, μ') ∧ Rel σ' μ' := by
  rcases sf_cases x y with ⟨s, f, hs, hf, rfl, rfl, c1, c2⟩ | ⟨c1, c2⟩
  · obtain ⟨v, f1, f2, f3⟩ := find_val h hs hf z
    rcases f3 with ⟨e, sz, i, d1, d2, rfl, d4, d5, d6, d7, d8, d9⟩ | ⟨e1, e2⟩
    · subst e
      refine ⟨1, _, _, ?_, ?_, h.item hs (show i < 60 by omega) (kpt f w)⟩
      · unfold O_put
        refine lti c1 ?_
        refine ifn (by decide) ?_
        refine ob f1 ?_
        refine ifp rfl ?_
        exact ob (setItem_eq hs hf d4 (by omega) w) rfl
      · unfold M_put
        refine lti c2 ?_
        refine ifn (by decide) ?_
        refine ob f2 ?_
        refine ifp (by decide) ?_
        exact ob (keep_eq hs hf d6 (by omega) w) rfl
    · refine ⟨(-10) - v, _, _, ?_, ?_, h.found v⟩
      · unfold O_put
        refine lti c1 ?_
        refine ifn (by decide) ?_
        refine ob f1 ?_
        refine ifn e1 ?_
        exact lti rfl (lti rfl (lti rfl rfl))
      · unfold M_put
        refine lti c2 ?_
        refine ifn (by decide) ?_
        refine ob f2 ?_
        refine ifn e2 ?_
        exact lti rfl (lti rfl (lti rfl rfl))
  · refine ⟨-2, σ, μ, ?_, ?_, h⟩
    · unfold O_put; exact lti c1 (ifp rfl rfl)
    · unfold M_put; exact lti c2 (ifp rfl rfl)
