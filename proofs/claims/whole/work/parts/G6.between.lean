theorem andZ_iff {m X : Nat} : m &&& X = 0 ↔ ∀ i, ¬ (m.testBit i = true ∧ X.testBit i = true) := by
  constructor
  · intro h i ⟨h1, h2⟩
    have : (m &&& X).testBit i = true := by rw [Nat.testBit_and, h1, h2]; rfl
    rw [h, Nat.zero_testBit] at this
    cases this
  · intro h
    apply Nat.eq_of_testBit_eq
    intro i
    rw [Nat.zero_testBit, Nat.testBit_and]
    refine Bool.eq_false_iff.mpr (fun q => h i ?_)
    rwa [Bool.and_eq_true] at q
theorem and2_iff {m x : Nat} : m &&& 2 ^ x = 0 ↔ ¬ m.testBit x = true := by
  rw [andZ_iff]
  constructor
  · intro h q
    exact h x ⟨q, by rw [Nat.testBit_two_pow]; exact decide_eq_true rfl⟩
  · rintro h i ⟨h1, h2⟩
    rw [Nat.testBit_two_pow] at h2
    exact h (by rw [of_decide_eq_true h2]; exact h1)
theorem andB {m a b : Nat} : (m &&& (2 ^ a ||| 2 ^ b) = 2 ^ a ||| 2 ^ b ↔ m.testBit a = true ∧ m.testBit b = true) ∧ (m &&& (2 ^ a ||| 2 ^ b) = 0 ↔ ¬ m.testBit a = true ∧ ¬ m.testBit b = true) ∧ (m.testBit a = true → ¬ m.testBit b = true → m &&& (2 ^ a ||| 2 ^ b) = 2 ^ a) ∧ (¬ m.testBit a = true → m.testBit b = true → m &&& (2 ^ a ||| 2 ^ b) = 2 ^ b) := by
  have tb : ∀ i, (2 ^ a ||| 2 ^ b).testBit i = (decide (a = i) || decide (b = i)) := fun i => by rw [Nat.testBit_or, Nat.testBit_two_pow, Nat.testBit_two_pow]
  refine ⟨⟨fun h => ?_, fun h => ?_⟩, ⟨fun h => ?_, fun h => ?_⟩, fun h1 h2 => ?_, fun h1 h2 => ?_⟩
  · have h1 : (m &&& (2 ^ a ||| 2 ^ b)).testBit a = (2 ^ a ||| 2 ^ b).testBit a := by rw [h]
    have h2 : (m &&& (2 ^ a ||| 2 ^ b)).testBit b = (2 ^ a ||| 2 ^ b).testBit b := by rw [h]
    rw [Nat.testBit_and, tb] at h1 h2
    simp at h1 h2
    exact ⟨h1, h2⟩
  · apply Nat.eq_of_testBit_eq
    intro i
    rw [Nat.testBit_and, tb]
    by_cases q1 : a = i
    · subst q1; simp [h.1]
    · by_cases q2 : b = i
      · subst q2; simp [h.2]
      · simp [q1, q2]
  · rw [andZ_iff] at h
    exact ⟨fun q => h a ⟨q, by rw [tb]; simp⟩, fun q => h b ⟨q, by rw [tb]; simp⟩⟩
  · rw [andZ_iff]
    rintro i ⟨h1, h2⟩
    rw [tb, Bool.or_eq_true, decide_eq_true_iff, decide_eq_true_iff] at h2
    rcases h2 with rfl | rfl
    · exact h.1 h1
    · exact h.2 h1
  · apply Nat.eq_of_testBit_eq
    intro i
    rw [Nat.testBit_and, tb, Nat.testBit_two_pow]
    by_cases q1 : a = i
    · subst q1; simp [h1]
    · by_cases q2 : b = i
      · subst q2; simp [h2]; exact q1
      · simp [q1, q2]
  · apply Nat.eq_of_testBit_eq
    intro i
    rw [Nat.testBit_and, tb, Nat.testBit_two_pow]
    by_cases q2 : b = i
    · subst q2; simp [h2]
    · by_cases q1 : a = i
      · subst q1; simp [h1]; exact q2
      · simp [q1, q2]
def bsS (st : Nat → Nat) (x : Nat) (s : Nat × Nat × Nat) (c : Nat) : Nat × Nat × Nat := if (st c).testBit x = true then (s.1, s.2.1, 1) else if s.2.2 = 0 then (s.1 + pc8 (st c), s.2.1, s.2.2) else (s.1, s.2.1 + pc8 (st c), s.2.2)
theorem bsS_0 {st : Nat → Nat} {x : Nat} : ∀ {A : List Nat} {o i : Nat}, (∀ c ∈ A, ¬ (st c).testBit x = true) → A.foldl (bsS st x) (o, i, 0) = (o + pcs st A, i, 0)
  | [], o, i, _ => rfl
  | c :: A, o, i, h => by
    rw [List.foldl_cons]
    unfold bsS
    rw [if_neg (h c (by simp)), if_pos rfl]
    have := bsS_0 (x := x) (A := A) (o := o + pc8 (st c)) (i := i) (fun e he => h e (by simp [he]))
    unfold bsS at this
    rw [this, Nat.add_assoc]; rfl
theorem bsS_1 {st : Nat → Nat} {x : Nat} : ∀ {A : List Nat} {o i : Nat}, (∀ c ∈ A, ¬ (st c).testBit x = true) → A.foldl (bsS st x) (o, i, 1) = (o, i + pcs st A, 1)
  | [], o, i, _ => rfl
  | c :: A, o, i, h => by
    rw [List.foldl_cons]
    unfold bsS
    rw [if_neg (h c (by simp)), if_neg (show ¬ (1 : Nat) = 0 by decide)]
    have := bsS_1 (x := x) (A := A) (o := o) (i := i + pc8 (st c)) (fun e he => h e (by simp [he]))
    unfold bsS at this
    rw [this, Nat.add_assoc]; rfl
section
variable {σ : Mem} {t : Nat} {kd : Nat → Bool} {ch : Nat → List Nat} {st : Nat → Nat}
theorem T_besideIn_ok (hA : AT σ t kd ch st) (ht : isT t) {id x : Nat} {g : Bool} (hid : id < 24) (h8 : 8 ≤ id) (hw : WfD kd ch st 8 id) (h256 : st id < 256) (hu : ∀ e ∈ ch id, Us ch e) (hx : (st id).testBit x = true) : T_besideIn t (nI id) (nI (2 ^ x)) (if g = true then 1 else 0) σ = some (nI (bsN kd ch st x g id)) := by
  obtain ⟨A, p, B, e, hp, hnA, hnB, hall, hnd⟩ := node_parts (d := 7) (by omega) hw h256 hx
  have hN := (Wf_node h8).mp ⟨8, hw⟩
  have hpc := pc_le _ h256
  have hpcs : pcs st (ch id) = pc8 (st id) := by rw [hN.2.2.1, pcs_or hN.2.2.2.1]
  have hm : (ch id).length ≤ 8 := (hA id hid).1
  have hne : ch id ≠ [] := by rw [e]; simp
  have sz := hA.size ht hid
  have hsum : pcs st A + (pc8 (st p) + pcs st B) = pc8 (st id) := by
    rw [← hpcs, e, pcs_app]; rfl
  have key : ∃ r, lp (fun s => T_besideIn_b1 t (nI id) (nI (2 ^ x)) σ s.1 s.2.1 s.2.2.1 s.2.2.2) fuel (0, 0, 0, 0) = some r ∧ r = (nI (pcs st A), nI (pcs st B)) := by
    refine lp_for (ch id).length (fun j s => s = (nI (((ch id).take j).foldl (bsS st x) (0, 0, 0)).1, nI (((ch id).take j).foldl (bsS st x) (0, 0, 0)).2.1, nI (((ch id).take j).foldl (bsS st x) (0, 0, 0)).2.2, nI j) ∧ (((ch id).take j).foldl (bsS st x) (0, 0, 0)).2.2 ≤ 1) _ _ 0 (by omega) ⟨rfl, Nat.zero_le _⟩ (by omega) ?_ ?_
    · rintro j s hj ⟨rfl, hp1⟩
      left
      have hc : (ch id).getD j 0 ∈ ch id := getD_mem hj
      have hs := hall _ hc
      have pt := hA.part ht hid hj
      have c24 := (((hA id hid).2.2.1) j hj).1
      have rs := hA.set ht c24 (hu _ hc)
      refine ⟨_, ?_, rfl, ?_⟩
      · show T_besideIn_b1 t (nI id) (nI (2 ^ x)) σ (nI (((ch id).take j).foldl (bsS st x) (0, 0, 0)).1) (nI (((ch id).take j).foldl (bsS st x) (0, 0, 0)).2.1) (nI (((ch id).take j).foldl (bsS st x) (0, 0, 0)).2.2) (nI j) = _
        rw [take_succ' hj, List.foldl_append, List.foldl_cons, List.foldl_nil]
        generalize ((ch id).take j).foldl (bsS st x) (0, 0, 0) = z at hp1
        generalize (ch id).getD j 0 = cc at hc hs pt c24 rs
        unfold T_besideIn_b1
        refine ob sz ?_
        refine ifn (nI_ge hj (by omega)) ?_
        refine ob pt ?_
        refine ob rs ?_
        refine lti (b := (nI (bsS st x z cc).1, nI (bsS st x z cc).2.1, nI (bsS st x z cc).2.2)) ?_ ?_
        · rw [xI_and, bc8 _ hs.2.2]
          have hle : st cc &&& 2 ^ x < 2 ^ 31 := Nat.lt_of_le_of_lt Nat.and_le_left (by omega)
          unfold bsS
          by_cases q : (st cc).testBit x = true
          · rw [if_pos q, if_neg (nI_ne0 (Nat.pos_of_ne_zero (fun w => and2_iff.mp w q)) hle)]; rfl
          · rw [if_neg q, if_pos (by rw [and2_iff.mpr q]; rfl)]
            by_cases q2 : z.2.2 = 0
            · rw [if_pos q2, if_pos (by rw [q2]; rfl)]
              exact lti (nI_add _ _) rfl
            · rw [if_neg q2, if_neg (nI_ne0 (by omega) (by omega))]
              exact lti (nI_add _ _) rfl
        · exact lti rfl (lti rfl (lti rfl (lti (nI_1 _) rfl)))
      · show (((ch id).take (j + 1)).foldl (bsS st x) (0, 0, 0)).2.2 ≤ 1
        rw [take_succ' hj, List.foldl_append, List.foldl_cons, List.foldl_nil]
        generalize ((ch id).take j).foldl (bsS st x) (0, 0, 0) = z at hp1
        unfold bsS
        by_cases q : (st ((ch id).getD j 0)).testBit x = true
        · rw [if_pos q]; exact Nat.le_refl _
        · rw [if_neg q]
          by_cases q2 : z.2.2 = 0
          · rw [if_pos q2]; exact hp1
          · rw [if_neg q2]; exact hp1
    · rintro s ⟨rfl, -⟩
      refine ⟨(nI (((ch id).take (ch id).length).foldl (bsS st x) (0, 0, 0)).1, nI (((ch id).take (ch id).length).foldl (bsS st x) (0, 0, 0)).2.1), ?_, ?_⟩
      · show T_besideIn_b1 t (nI id) (nI (2 ^ x)) σ (nI (((ch id).take (ch id).length).foldl (bsS st x) (0, 0, 0)).1) (nI (((ch id).take (ch id).length).foldl (bsS st x) (0, 0, 0)).2.1) (nI (((ch id).take (ch id).length).foldl (bsS st x) (0, 0, 0)).2.2) (nI (ch id).length) = _
        unfold T_besideIn_b1
        refine ob sz ?_
        exact ifp (nI_le (Nat.le_refl _) (by omega)) rfl
      · rw [List.take_length, e, List.foldl_append, bsS_0 hnA, List.foldl_cons]
        have eh : bsS st x (0 + pcs st A, 0, 0) p = (0 + pcs st A, 0, 1) := by unfold bsS; rw [if_pos hp]
        rw [eh, bsS_1 hnB, Nat.zero_add, Nat.zero_add]
  obtain ⟨r, l1, rfl⟩ := key
  have ev : bsN kd ch st x g id = sdV (kd id) g (pcs st A) (pcs st B) := by
    unfold bsN
    rw [e, (ahX_eq hp hnA).1, (ahX_eq hp hnA).2]
  rw [ev]
  unfold T_besideIn
  refine ob l1 ?_
  refine lti rfl ?_
  refine lti rfl ?_
  refine ob (hA.kind ht hid hne) ?_
  unfold sdV
  cases kd id
  · refine ifp rfl ?_
    refine lti (b := nI (if g = true then pcs st A + pcs st B else 0)) ?_ rfl
    cases g
    · rfl
    · rw [if_neg (by decide), if_pos rfl]
      exact nI_add _ _
  · refine ifn (by decide) ?_
    rw [if_pos rfl]
    cases g
    · refine lti (b := nI (if pcs st B < pcs st A then pcs st B else pcs st A)) ?_ rfl
      rw [if_pos (by decide)]
      by_cases q : pcs st B < pcs st A
      · rw [if_pos q]; exact if_pos (nI_lt q (by omega))
      · rw [if_neg q]; exact if_neg (nI_nlt (by omega) (by omega))
    · refine lti (b := nI (if pcs st A < pcs st B then pcs st B else pcs st A)) ?_ rfl
      rw [if_neg (by decide)]
      by_cases q : pcs st A < pcs st B
      · rw [if_pos q]; exact if_pos (nI_lt q (by omega))
      · rw [if_neg q]; exact if_neg (nI_nlt (by omega) (by omega))
theorem T_betweenIn_ok (hA : AT σ t kd ch st) (ht : isT t) {id a b : Nat} {g : Bool} (hid : id < 24) (hne : ch id ≠ []) (hu : ∀ e ∈ ch id, Us ch e) (h256 : ∀ e ∈ ch id, st e < 256) : T_betweenIn t (nI id) (nI (2 ^ a)) (nI (2 ^ b)) (if g = true then 1 else 0) σ = some (nI (btN kd ch st a b g id)) := by
  have hm : (ch id).length ≤ 8 := (hA id hid).1
  have sz := hA.size ht hid
  have key : ∃ r, lp (fun s => T_betweenIn_b1 t (nI id) (nI (2 ^ a)) (nI (2 ^ b)) σ s.1 s.2.1 s.2.2.1 s.2.2.2) fuel (0, 0, 0, 0) = some r ∧ r = (nI ((ch id).foldl (btS st a b) (0, 0, 0)).1, nI ((ch id).foldl (btS st a b) (0, 0, 0)).2.1) := by
    refine lp_for (ch id).length (fun j s => s = (nI (((ch id).take j).foldl (btS st a b) (0, 0, 0)).1, nI (((ch id).take j).foldl (btS st a b) (0, 0, 0)).2.1, nI (((ch id).take j).foldl (btS st a b) (0, 0, 0)).2.2, nI j) ∧ (((ch id).take j).foldl (btS st a b) (0, 0, 0)).2.2 ≤ j) _ _ 0 (by omega) ⟨rfl, Nat.zero_le _⟩ (by omega) ?_ ?_
    · rintro j s hj ⟨rfl, hp1⟩
      left
      have hc : (ch id).getD j 0 ∈ ch id := getD_mem hj
      have hs := h256 _ hc
      have pt := hA.part ht hid hj
      have c24 := (((hA id hid).2.2.1) j hj).1
      have rs := hA.set ht c24 (hu _ hc)
      refine ⟨_, ?_, rfl, ?_⟩
      · show T_betweenIn_b1 t (nI id) (nI (2 ^ a)) (nI (2 ^ b)) σ (nI (((ch id).take j).foldl (btS st a b) (0, 0, 0)).1) (nI (((ch id).take j).foldl (btS st a b) (0, 0, 0)).2.1) (nI (((ch id).take j).foldl (btS st a b) (0, 0, 0)).2.2) (nI j) = _
        rw [take_succ' hj, List.foldl_append, List.foldl_cons, List.foldl_nil]
        generalize ((ch id).take j).foldl (btS st a b) (0, 0, 0) = z at hp1
        generalize (ch id).getD j 0 = cc at hc hs pt c24 rs
        unfold T_betweenIn_b1
        refine ob sz ?_
        refine ifn (nI_ge hj (by omega)) ?_
        refine ob pt ?_
        refine ob rs ?_
        refine lti (b := (nI (btS st a b z cc).1, nI (btS st a b z cc).2.1, nI (btS st a b z cc).2.2)) ?_ ?_
        · rw [xI_or, xI_and, bc8 _ hs]
          have hle : st cc &&& (2 ^ a ||| 2 ^ b) < 2 ^ 31 := Nat.lt_of_le_of_lt Nat.and_le_left (by omega)
          unfold btS
          by_cases q : hasA st a b cc = true
          · rw [if_pos q, if_neg (nI_ne0 (Nat.pos_of_ne_zero (fun w => by
              have := andB.2.1.mp w
              rcases hasA_iff.mp q with q | q
              · exact this.1 q
              · exact this.2 q)) hle)]
            exact lti (nI_1 _) rfl
          · have q' : ¬ (st cc).testBit a = true ∧ ¬ (st cc).testBit b = true := ⟨fun w => q (hasA_iff.mpr (Or.inl w)), fun w => q (hasA_iff.mpr (Or.inr w))⟩
            rw [if_neg q, if_pos (by rw [andB.2.1.mpr q']; rfl)]
            refine lti (nI_add _ _) ?_
            refine lti (b := nI (if z.2.2 = 1 then pc8 (st cc) else 0)) ?_ (lti (nI_add _ _) rfl)
            by_cases q2 : z.2.2 = 1
            · rw [if_pos q2, if_pos (by rw [q2]; rfl)]
            · rw [if_neg q2, if_neg (show ¬ nI z.2.2 = 1 from nI_ne (b := 1) (by omega) (by omega) q2)]; rfl
        · exact lti rfl (lti rfl (lti rfl (lti (nI_1 _) rfl)))
      · show (((ch id).take (j + 1)).foldl (btS st a b) (0, 0, 0)).2.2 ≤ j + 1
        rw [take_succ' hj, List.foldl_append, List.foldl_cons, List.foldl_nil]
        generalize ((ch id).take j).foldl (btS st a b) (0, 0, 0) = z at hp1
        unfold btS
        by_cases q : hasA st a b ((ch id).getD j 0) = true
        · rw [if_pos q]; show z.2.2 + 1 ≤ j + 1; omega
        · rw [if_neg q]; show z.2.2 ≤ j + 1; omega
    · rintro s ⟨rfl, -⟩
      refine ⟨(nI (((ch id).take (ch id).length).foldl (btS st a b) (0, 0, 0)).1, nI (((ch id).take (ch id).length).foldl (btS st a b) (0, 0, 0)).2.1), ?_, ?_⟩
      · show T_betweenIn_b1 t (nI id) (nI (2 ^ a)) (nI (2 ^ b)) σ (nI (((ch id).take (ch id).length).foldl (btS st a b) (0, 0, 0)).1) (nI (((ch id).take (ch id).length).foldl (btS st a b) (0, 0, 0)).2.1) (nI (((ch id).take (ch id).length).foldl (btS st a b) (0, 0, 0)).2.2) (nI (ch id).length) = _
        unfold T_betweenIn_b1
        refine ob sz ?_
        exact ifp (nI_le (Nat.le_refl _) (by omega)) rfl
      · rw [List.take_length]
  obtain ⟨r, l1, rfl⟩ := key
  unfold T_betweenIn
  refine ob l1 ?_
  refine lti rfl ?_
  refine lti rfl ?_
  refine ob (hA.kind ht hid hne) ?_
  unfold btN
  cases kd id
  · refine ifp rfl ?_
    refine lti (b := nI (if g = true then ((ch id).foldl (btS st a b) (0, 0, 0)).1 else 0)) ?_ rfl
    cases g
    · rfl
    · rw [if_neg (by decide), if_pos rfl]
  · refine ifn (by decide) ?_
    rw [if_pos rfl]
end
