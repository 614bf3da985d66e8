-- ===== rows: lists of things; what is side by side =====
def inM (g x : Nat) : Prop := g.testBit x = true
def Cons (g : Nat) (r : List Nat) : Prop := ∃ a b c, r = a ++ b ++ c ∧ (∀ x ∈ a, g.testBit x = false) ∧ (∀ x ∈ b, g.testBit x = true) ∧ (∀ x ∈ c, g.testBit x = false)
/-- the mask of a list -/
def mkL : List Nat → Nat
  | [] => 0
  | k :: r => 2 ^ k ||| mkL r
theorem mkL_bit (r : List Nat) (i : Nat) : (mkL r).testBit i = decide (i ∈ r) := by
  induction r with
  | nil => simp [mkL]
  | cons k r ih => simp [mkL, Nat.testBit_or, Nat.testBit_two_pow, ih, eq_comm]
theorem mkL_app (a b : List Nat) : mkL (a ++ b) = mkL a ||| mkL b := by
  apply Nat.eq_of_testBit_eq
  intro i
  simp [mkL_bit, Nat.testBit_or]
theorem and_ne0 {a b : Nat} : a &&& b ≠ 0 ↔ ∃ i, a.testBit i = true ∧ b.testBit i = true := by
  constructor
  · intro h
    obtain ⟨i, hi⟩ := Nat.exists_testBit_of_ne_zero h
    rw [Nat.testBit_and] at hi
    exact ⟨i, by simpa using hi⟩
  · rintro ⟨i, h1, h2⟩ e
    have : (a &&& b).testBit i = true := by simp [Nat.testBit_and, h1, h2]
    rw [e] at this; simp at this
theorem and_ne_r {a b : Nat} : a &&& b ≠ b ↔ ∃ i, a.testBit i = false ∧ b.testBit i = true := by
  constructor
  · intro h
    obtain ⟨i, hi⟩ := Nat.exists_testBit_ne_of_ne h
    rw [Nat.testBit_and] at hi
    refine ⟨i, ?_⟩
    cases ha : a.testBit i <;> cases hb : b.testBit i <;> simp_all
  · rintro ⟨i, h1, h2⟩ e
    have : (a &&& b).testBit i = b.testBit i := by rw [e]
    simp [Nat.testBit_and, h1, h2] at this
theorem cons_iff {g : Nat} {r : List Nat} (hn : r.Nodup) (hg : ∀ x, g.testBit x = true → x ∈ r) : Cons g r ↔ ∀ a k b, r = a ++ k :: b → mkL a &&& g ≠ 0 → mkL a &&& g ≠ g → g.testBit k = true := by
  constructor
  · rintro ⟨A, B, C, rfl, hA, hB, hC⟩ a k b e h1 h2
    obtain ⟨i, hi1, hi2⟩ := and_ne0.mp h1
    obtain ⟨j, hj1, hj2⟩ := and_ne_r.mp h2
    rw [mkL_bit] at hi1 hj1
    have hi1 : i ∈ a := by simpa using hi1
    have hj1 : j ∉ a := by simpa using hj1
    have hjr := hg j hj2
    cases hk : g.testBit k with
    | true => rfl
    | false =>
      exfalso
      rw [List.append_assoc] at e
      -- where k stands
      rcases List.append_eq_append_iff.mp e with ⟨a2, e1, e2⟩ | ⟨a2, e1, e2⟩
      · -- a = A ++ a2
        rcases List.append_eq_append_iff.mp e2 with ⟨a3, e3, e4⟩ | ⟨a3, e3, e4⟩
        · -- a2 = B ++ a3: everything of g is in a
          rw [e1, e3] at hj1
          have : j ∈ k :: b := by
            rw [List.append_assoc, e] at hjr
            rcases List.mem_append.mp hjr with h | h
            · exact absurd (by rw [e1, e3] at h; exact h) hj1
            · exact h
          have : j ∈ C := by rw [e4]; exact List.mem_append_right _ this
          rw [hC j this] at hj2; cases hj2
        · -- B = a2 ++ a3, k :: b = a3 ++ C
          cases a3 with
          | nil =>
            simp at e4
            have : j ∈ k :: b := by
              rw [List.append_assoc, e] at hjr
              rcases List.mem_append.mp hjr with h | h
              · exact absurd h hj1
              · exact h
            rw [e4] at this
            rw [hC j this] at hj2; cases hj2
          | cons z a3 =>
            simp at e4
            have : k ∈ B := by rw [e3, e4.1]; simp
            rw [hB k this] at hk; cases hk
      · -- A = a ++ a2
        have : i ∈ A := by rw [e1]; exact List.mem_append_left _ hi1
        rw [hA i this] at hi2; cases hi2
  · intro h
    refine ⟨r.takeWhile (fun x => !g.testBit x), (r.dropWhile (fun x => !g.testBit x)).takeWhile (fun x => g.testBit x), (r.dropWhile (fun x => !g.testBit x)).dropWhile (fun x => g.testBit x), by rw [List.append_assoc, List.takeWhile_append_dropWhile, List.takeWhile_append_dropWhile], fun x hx => ?_, fun x hx => ?_, fun x hx => ?_⟩
    · have := List.all_eq_true.mp (List.all_takeWhile (p := fun x => !g.testBit x) (l := r)) x hx
      simpa using this
    · exact List.all_eq_true.mp (List.all_takeWhile (p := fun x => g.testBit x)) x hx
    · cases hx2 : g.testBit x with
      | false => rfl
      | true =>
        exfalso
        generalize hd : r.dropWhile (fun x => !g.testBit x) = d at hx
        have hr : r = r.takeWhile (fun x => !g.testBit x) ++ d := by rw [← hd, List.takeWhile_append_dropWhile]
        generalize ht : r.takeWhile (fun x => !g.testBit x) = t at hr
        have hd2 : d = d.takeWhile (fun x => g.testBit x) ++ d.dropWhile (fun x => g.testBit x) := (List.takeWhile_append_dropWhile).symm
        generalize hu : d.takeWhile (fun x => g.testBit x) = u at hd2
        generalize hv : d.dropWhile (fun x => g.testBit x) = v at hd2 hx
        cases v with
        | nil => cases hx
        | cons k v =>
          have hk : g.testBit k = false := by
            have := List.head?_dropWhile_not (p := fun x => g.testBit x) (l := d)
            rw [hv] at this
            simpa using this
          cases u with
          | nil =>
            -- d begins with k, which the first dropWhile would have dropped
            have := List.head?_dropWhile_not (p := fun x => !g.testBit x) (l := r)
            rw [hd, hd2] at this
            simp [hk] at this
          | cons y u =>
            have hy : g.testBit y = true := by
              have := List.all_eq_true.mp (List.all_takeWhile (p := fun x => g.testBit x) (l := d)) y (by rw [hu]; simp)
              simpa using this
            have e : r = (t ++ y :: u) ++ k :: v := by rw [hr, hd2]; simp
            have := h _ _ _ e (and_ne0.mpr ⟨y, by rw [mkL_bit]; simp, hy⟩) (and_ne_r.mpr ⟨x, by
              rw [mkL_bit]
              rw [e] at hn
              have := (List.nodup_append.mp hn).2.2
              simp only [decide_eq_false_iff_not]
              intro hxm
              exact this x hxm x hx rfl, hx2⟩)
            rw [hk] at this; cases this
