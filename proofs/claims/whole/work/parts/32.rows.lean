-- ===== the count of orders by sets =====
def sumR (n : Nat) (f : Nat → Nat) : Nat := ((List.range n).map f).sum
theorem sumR_0 (f : Nat → Nat) : sumR 0 f = 0 := rfl
theorem sumR_s (n : Nat) (f : Nat → Nat) : sumR (n + 1) f = sumR n f + f n := by
  simp [sumR, List.range_succ]
theorem sumR_congr {n : Nat} {f g : Nat → Nat} (h : ∀ k, k < n → f k = g k) : sumR n f = sumR n g := by
  induction n with
  | zero => rfl
  | succ n ih => rw [sumR_s, sumR_s, ih (fun k hk => h k (by omega)), h n (by omega)]
theorem sumR_one {n : Nat} {f g : Nat → Nat} {c : Nat} (k : Nat) (hk : k < n) (h : ∀ j, j < n → j ≠ k → f j = g j) (hc : f k = g k + c) : sumR n f = sumR n g + c := by
  induction n with
  | zero => omega
  | succ n ih =>
    rw [sumR_s, sumR_s]
    by_cases e : k = n
    · subst e
      rw [sumR_congr (fun j hj => h j (by omega) (by omega)), hc]; omega
    · rw [ih (by omega) (fun j hj => h j (by omega)), h n (by omega) (fun z => e z.symm)]; omega
theorem sumR_le {n : Nat} {f : Nat → Nat} {c : Nat} (h : ∀ k, k < n → f k ≤ c) : sumR n f ≤ n * c := by
  induction n with
  | zero => simp [sumR_0]
  | succ n ih =>
    rw [sumR_s, Nat.succ_mul]
    have h1 := ih (fun k hk => h k (by omega))
    have h2 := h n (by omega)
    omega
-- masks below 256, by looking
theorem mk_sub : ∀ m, m < 256 → ∀ k, k < 8 → m.testBit k = true → m - 2 ^ k < m ∧ pc8 (m - 2 ^ k) + 1 = pc8 m ∧ (m - 2 ^ k).testBit k = false ∧ (m - 2 ^ k) ||| 2 ^ k = m := by decide +kernel
theorem mk_or : ∀ m, m < 256 → ∀ k, k < 8 → m ||| 2 ^ k < 256 ∧ (m.testBit k = false → (m ||| 2 ^ k) - 2 ^ k = m ∧ (m ||| 2 ^ k).testBit k = true) := by decide +kernel
theorem pc_le : ∀ m, m < 256 → pc8 m ≤ 8 := by decide +kernel
def cwD (n : Nat) (nx : Nat → Nat) : Nat → Nat → Nat
  | 0, _ => 0
  | f + 1, m => if m = 0 then 1 else sumR n (fun k => if m.testBit k = true ∧ (nx (m - 2 ^ k)).testBit k = true then cwD n nx f (m - 2 ^ k) else 0)
def cw (n : Nat) (nx : Nat → Nat) (m : Nat) : Nat := cwD n nx (m + 1) m
theorem sub_lt_of_bit {m k : Nat} (h : m.testBit k = true) : m - 2 ^ k < m := by
  have h1 : m ≠ 0 := by intro e; subst e; simp at h
  have h2 : 0 < 2 ^ k := Nat.two_pow_pos k
  omega
theorem cwD_eq (n : Nat) (nx : Nat → Nat) : ∀ f m, m < f → cwD n nx f m = cw n nx m := by
  intro f
  induction f using Nat.strongRecOn with
  | ind f ih =>
    intro m hm
    obtain ⟨f, rfl⟩ : ∃ q, f = q + 1 := ⟨f - 1, by omega⟩
    unfold cw
    by_cases e : f = m
    · rw [e]
    · unfold cwD
      by_cases h0 : m = 0
      · rw [if_pos h0, if_pos h0]
      · rw [if_neg h0, if_neg h0]
        apply sumR_congr
        intro k hk
        by_cases c : m.testBit k = true ∧ (nx (m - 2 ^ k)).testBit k = true
        · rw [if_pos c, if_pos c]
          have := sub_lt_of_bit c.1
          rw [ih f (by omega) (m - 2 ^ k) (by omega), ih m (by omega) (m - 2 ^ k) (by omega)]
        · rw [if_neg c, if_neg c]
theorem cw_0 (n : Nat) (nx : Nat → Nat) : cw n nx 0 = 1 := rfl
theorem cw_s {n : Nat} {nx : Nat → Nat} {m : Nat} (h : m ≠ 0) : cw n nx m = sumR n (fun k => if m.testBit k = true ∧ (nx (m - 2 ^ k)).testBit k = true then cw n nx (m - 2 ^ k) else 0) := by
  show cwD n nx (m + 1) m = _
  unfold cwD
  rw [if_neg h]
  apply sumR_congr
  intro k hk
  by_cases c : m.testBit k = true ∧ (nx (m - 2 ^ k)).testBit k = true
  · rw [if_pos c, if_pos c, cwD_eq n nx m _ (sub_lt_of_bit c.1)]
  · rw [if_neg c, if_neg c]
theorem cw_le {n : Nat} {nx : Nat → Nat} (hn : n ≤ 8) : ∀ m, m < 256 → cw n nx m ≤ 8 ^ pc8 m := by
  intro m
  induction m using Nat.strongRecOn with
  | ind m ih =>
    intro hm
    by_cases h0 : m = 0
    · subst h0; exact Nat.le_refl _
    · rw [cw_s h0]
      have h1 : ∃ p, pc8 m = p + 1 := by
        have : ∀ m, m < 256 → m ≠ 0 → 0 < pc8 m := by decide +kernel
        have := this m hm h0
        exact ⟨pc8 m - 1, by omega⟩
      obtain ⟨p, hp⟩ := h1
      have h2 := sumR_le (n := n) (f := fun k => if m.testBit k = true ∧ (nx (m - 2 ^ k)).testBit k = true then cw n nx (m - 2 ^ k) else 0) (c := 8 ^ p) (by
        intro k hk
        show (if _ then _ else _) ≤ _
        split
        · rename_i c
          obtain ⟨a1, a2, -, -⟩ := mk_sub m hm k (by omega) c.1
          have := ih _ a1 (by omega)
          rw [show pc8 (m - 2 ^ k) = p by omega] at this
          exact this
        · exact Nat.zero_le _)
      have h3 : n * 8 ^ p ≤ 8 * 8 ^ p := Nat.mul_le_mul_right _ hn
      rw [hp, Nat.pow_succ]
      omega
theorem cw_lt {n : Nat} {nx : Nat → Nat} (hn : n ≤ 8) {m : Nat} (hm : m < 256) : cw n nx m < 2 ^ 25 := by
  have h1 := cw_le (nx := nx) hn m hm
  have h2 : 8 ^ pc8 m ≤ 8 ^ 8 := Nat.pow_le_pow_right (by decide) (pc_le m hm)
  have h3 : (8 : Nat) ^ 8 < 2 ^ 25 := by decide
  omega
/-- what has come to a set m by the sets below d, and by d's first k0 things -/
def ps (n : Nat) (nx : Nat → Nat) (m d k0 : Nat) : Nat := (if m = 0 then 1 else 0) + sumR n (fun k => if m.testBit k = true ∧ (nx (m - 2 ^ k)).testBit k = true ∧ (m - 2 ^ k < d ∨ (m - 2 ^ k = d ∧ k < k0)) then cw n nx (m - 2 ^ k) else 0)
theorem ps_fin {n : Nat} {nx : Nat → Nat} {m d k0 : Nat} (h : m ≤ d) : ps n nx m d k0 = cw n nx m := by
  unfold ps
  by_cases h0 : m = 0
  · subst h0
    rw [cw_0, if_pos rfl, sumR_congr (g := fun _ => 0) (fun k _ => by simp)]
    have : ∀ n, sumR n (fun _ => 0) = 0 := by intro n; induction n with
      | zero => rfl
      | succ n ih => rw [sumR_s, ih]
    rw [this]
  · rw [if_neg h0, cw_s h0, Nat.zero_add]
    apply sumR_congr
    intro k hk
    by_cases c : m.testBit k = true ∧ (nx (m - 2 ^ k)).testBit k = true
    · have := sub_lt_of_bit c.1
      rw [if_pos ⟨c.1, c.2, Or.inl (by omega)⟩, if_pos c]
    · rw [if_neg (fun z => c ⟨z.1, z.2.1⟩), if_neg c]
theorem ps_next {n : Nat} {nx : Nat → Nat} {m d : Nat} : ps n nx m (d + 1) 0 = ps n nx m d n := by
  unfold ps
  congr 1
  apply sumR_congr
  intro k hk
  have e : (m - 2 ^ k < d + 1 ∨ (m - 2 ^ k = d + 1 ∧ k < 0)) ↔ (m - 2 ^ k < d ∨ (m - 2 ^ k = d ∧ k < n)) := by omega
  simp only [e]
theorem ps_step {n : Nat} {nx : Nat → Nat} {m d k : Nat} (hk : k < n) (hn : n ≤ 8) (hd : d < 256) (hm : m < 256) (hnx : (nx d).testBit k = true → d.testBit k = false) : ps n nx m d (k + 1) = ps n nx m d k + (if m = d ||| 2 ^ k ∧ (nx d).testBit k = true then cw n nx d else 0) := by
  unfold ps
  rw [Nat.add_assoc]
  congr 1
  refine sumR_one k hk (fun j hj hjk => ?_) ?_
  · have e : (m - 2 ^ j < d ∨ (m - 2 ^ j = d ∧ j < k + 1)) ↔ (m - 2 ^ j < d ∨ (m - 2 ^ j = d ∧ j < k)) := by omega
    simp only [e]
  · show (if _ then _ else _) = (if _ then _ else _) + (if _ then _ else _)
    by_cases c : m = d ||| 2 ^ k ∧ (nx d).testBit k = true
    · have h1 := hnx c.2
      obtain ⟨-, h2⟩ := mk_or d hd k (by omega)
      obtain ⟨h3, h4⟩ := h2 h1
      obtain ⟨e, c2⟩ := c
      subst e
      rw [h3, if_pos ⟨h4, c2, Or.inr ⟨rfl, by omega⟩⟩, if_neg (by rintro ⟨-, -, h | h⟩ <;> omega), if_pos ⟨rfl, c2⟩, Nat.zero_add]
    · rw [if_neg c]
      have e : (m.testBit k = true ∧ (nx (m - 2 ^ k)).testBit k = true ∧ (m - 2 ^ k < d ∨ (m - 2 ^ k = d ∧ k < k + 1))) ↔ (m.testBit k = true ∧ (nx (m - 2 ^ k)).testBit k = true ∧ (m - 2 ^ k < d ∨ (m - 2 ^ k = d ∧ k < k))) := by
        constructor
        · rintro ⟨a1, a2, a3 | ⟨a3, -⟩⟩
          · exact ⟨a1, a2, Or.inl a3⟩
          · exfalso
            apply c
            obtain ⟨-, -, -, b4⟩ := mk_sub m hm k (by omega) a1
            rw [a3] at b4 a2
            exact ⟨b4.symm, a2⟩
        · rintro ⟨a1, a2, a3 | ⟨a3, a4⟩⟩
          · exact ⟨a1, a2, Or.inl a3⟩
          · omega
      simp only [e, Nat.add_zero]
