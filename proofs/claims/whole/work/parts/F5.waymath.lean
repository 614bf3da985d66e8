/- the way of a node out of the places of its parts -/
def ahd (m : Nat) (P : Nat → Nat) (k : Nat) : Nat := ((List.range m).filter (fun j => decide (P j < P k))).length
def bhd (P : Nat → Nat) (k : Nat) : Nat := ((List.range k).filter (fun j => decide (P k < P j))).length
def wayN (m : Nat) (P : Nat → Nat) : Nat := sumR m (fun k => bhd P k * fac (m - 1 - ahd m P k))
theorem perm_rg {A : List Nat} {m : Nat} (h1 : A.Nodup) (h2 : ∀ x ∈ A, x < m) (h3 : A.length = m) : A.Perm (List.range m) := by
  refine (List.perm_ext_iff_of_nodup h1 List.nodup_range).mpr (fun x => ⟨fun h => List.mem_range.mpr (h2 x h), fun h => ?_⟩)
  refine Classical.byContradiction (fun hno => ?_)
  have := len_sub (x :: A) (List.range m) (by rw [List.nodup_cons]; exact ⟨hno, h1⟩) (fun y hy => by
    rw [List.mem_cons] at hy
    rcases hy with e | e
    · rw [e]; exact h
    · exact List.mem_range.mpr (h2 y e))
  rw [List.length_cons, h3, List.length_range] at this
  omega
theorem map_rg {m : Nat} {f : Nat → Nat} (h1 : ∀ i, i < m → f i < m) (h2 : ∀ i j, i < m → j < m → f i = f j → i = j) : ((List.range m).map f).Perm (List.range m) := by
  refine perm_rg ?_ ?_ ?_
  · unfold List.Nodup
    rw [List.pairwise_map]
    have h0 : (List.range m).Nodup := List.nodup_range
    refine List.Pairwise.imp_of_mem (fun {a b} ha hb hne e => ?_) h0
    exact hne (h2 a b (List.mem_range.mp ha) (List.mem_range.mp hb) e)
  · intro x hx
    obtain ⟨a, ha, rfl⟩ := List.mem_map.mp hx
    exact h1 a (List.mem_range.mp ha)
  · rw [List.length_map, List.length_range]
theorem ahd_lt {m : Nat} {P : Nat → Nat} {k : Nat} (hk : k < m) : ahd m P k < m := by
  refine Classical.byContradiction (fun hno => ?_)
  have h := filt_eq (p := fun j => decide (P j < P k)) (q := fun _ => true) (List.range m) (fun _ _ _ => rfl) (by
    have : ((List.range m).filter (fun _ => true)).length = m := by rw [List.filter_eq_self.mpr (fun _ _ => rfl), List.length_range]
    rw [this]
    unfold ahd at hno
    omega) k (List.mem_range.mpr hk) rfl
  have h : P k < P k := of_decide_eq_true h
  omega
theorem ahd_mono {m : Nat} {P : Nat → Nat} {j k : Nat} (hj : j < m) (h : P j < P k) : ahd m P j < ahd m P k := by
  refine Classical.byContradiction (fun hno => ?_)
  have h := filt_eq (p := fun i => decide (P i < P j)) (q := fun i => decide (P i < P k)) (List.range m) (fun i _ hi => by
    have := of_decide_eq_true hi
    exact decide_eq_true (by omega)) (by unfold ahd at hno; omega) j (List.mem_range.mpr hj) (decide_eq_true h)
  have h : P j < P j := of_decide_eq_true h
  omega
theorem ahd_inj {m : Nat} {P : Nat → Nat} (hP : ∀ i j, i < m → j < m → P i = P j → i = j) : ∀ i j, i < m → j < m → ahd m P i = ahd m P j → i = j := by
  intro i j hi hj e
  refine hP i j hi hj ?_
  rcases Nat.lt_or_ge (P i) (P j) with h | h
  · have := ahd_mono (m := m) hi h; omega
  · rcases Nat.lt_or_ge (P j) (P i) with h2 | h2
    · have := ahd_mono (m := m) hj h2; omega
    · omega
theorem ahd_sur {m : Nat} {P : Nat → Nat} (hP : ∀ i j, i < m → j < m → P i = P j → i = j) : ∀ i, i < m → ∃ k, k < m ∧ ahd m P k = i := by
  intro i hi
  have h := map_rg (m := m) (f := ahd m P) (fun k hk => ahd_lt hk) (ahd_inj hP)
  obtain ⟨k, hk, e⟩ := List.mem_map.mp (h.mem_iff.mpr (List.mem_range.mpr hi))
  exact ⟨k, List.mem_range.mp hk, e⟩
theorem wayN_re {m : Nat} {P : Nat → Nat} {κ : Nat → Nat} (h : ∀ i, i < m → κ i < m ∧ ahd m P (κ i) = i) : sumR m (fun i => bhd P (κ i) * fac (m - 1 - i)) = wayN m P := by
  have h1 := map_rg (m := m) (f := κ) (fun i hi => (h i hi).1) (fun i j hi hj e => by rw [← (h i hi).2, ← (h j hj).2, e])
  have h2 := (h1.map (fun k => bhd P k * fac (m - 1 - ahd m P k))).sum_nat
  have e3 : wayN m P = ((List.range m).map (fun k => bhd P k * fac (m - 1 - ahd m P k))).sum := rfl
  rw [e3, ← h2, List.map_map]
  show sumR m _ = sumR m _
  refine sumR_congr (fun i hi => ?_)
  show _ = bhd P (κ i) * fac (m - 1 - ahd m P (κ i))
  rw [(h i hi).2]
theorem wayN_congr {m : Nat} {P Q : Nat → Nat} (h : ∀ i j, i < m → j < m → (P i < P j ↔ Q i < Q j)) : wayN m P = wayN m Q := by
  unfold wayN
  refine sumR_congr (fun k hk => ?_)
  have e1 : bhd P k = bhd Q k := by
    unfold bhd
    rw [List.filter_congr (fun j hj => ?_)]
    have := h k j hk (by have := List.mem_range.mp hj; omega)
    exact decide_eq_decide.mpr this
  have e2 : ahd m P k = ahd m Q k := by
    unfold ahd
    rw [List.filter_congr (fun j hj => ?_)]
    exact decide_eq_decide.mpr (h j k (List.mem_range.mp hj) hk)
  rw [e1, e2]
theorem filt_s {p : Nat → Bool} {j : Nat} : ((List.range (j + 1)).filter p).length = ((List.range j).filter p).length + if p j = true then 1 else 0 := by
  rw [List.range_succ, List.filter_append, List.length_append]
  by_cases c : p j = true
  · rw [if_pos c, List.filter_cons_of_pos c]; rfl
  · rw [if_neg c, List.filter_cons_of_neg c]; rfl
/- places in a row: sets side by side that share nothing -/
theorem int_lt {r : List Nat} {A B : Nat} (hA : Cons A r) (hB : Cons B r) (hd : A &&& B = 0) {a a2 b b2 : Nat} (h1 : a < r.length) (h2 : a2 < r.length) (h3 : b < r.length) (h4 : b2 < r.length) (q1 : A.testBit (r.getD a 0) = true) (q2 : A.testBit (r.getD a2 0) = true) (q3 : B.testBit (r.getD b 0) = true) (q4 : B.testBit (r.getD b2 0) = true) (h : a < b) : a2 < b2 := by
  have nA : ∀ i, A.testBit (r.getD i 0) = true → B.testBit (r.getD i 0) = true → False := fun i x y => by
    have e : (A &&& B).testBit (r.getD i 0) = true := by rw [Nat.testBit_and, x, y]; rfl
    rw [hd, Nat.zero_testBit] at e
    cases e
  have cA := cons_int.mp hA
  have cB := cons_int.mp hB
  refine Classical.byContradiction (fun hno => ?_)
  have ne : a2 ≠ b2 := fun e => nA a2 q2 (by rw [e]; exact q4)
  have ne2 : a2 ≠ b := fun e => nA a2 q2 (by rw [e]; exact q3)
  have ne3 : a ≠ b2 := fun e => nA a q1 (by rw [e]; exact q4)
  rcases Nat.lt_or_ge a2 b with g | g
  · -- b2 < a2 < b : a2 in B
    exact nA a2 q2 (cB b2 a2 b (by omega) g h3 q4 q3)
  · -- a < b < a2 : b in A
    exact nA b (cA a b a2 h (by omega) h2 q1 q2) q3
